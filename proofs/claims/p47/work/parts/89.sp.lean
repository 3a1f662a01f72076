/-! ===== THE CLASS READS A TEXT: what it comes to, as a function of the bytes ===== -/
/-- the draft as read so far -/
def DQ (Q : Ps) (B : Bd) : Prop := CB Q.n Q.E B ∧ CP Q.pl B ∧ B.moveCount = Q.mc ∧ CS Q.n Q.sc Q.tg Q.wt Q.pr B ∧ Gr Q.n Q.E ∧ SO Q.n Q.sc Q.tg Q.wt Q.pr ∧ ∀ v, v < 6 → Q.pl v ≤ 999
/-- the class stands at the token behind `p` -/
def AT (b : Nat → Nat) (len p : Nat) (T : Tx) : Prop := TX b len T ∧ p ≤ len ∧ CT b len p T
/-- a part read: whether it fits, where it stands then, the draft -/
def RO (b : Nat → Nat) (len p : Nat) (T' : Tx) (s : Bool × Nat × Ps) : Prop := AT b len s.2.1 T' ∧ p ≤ s.2.1 ∧ (s.1 = true → DQ s.2.2 T'.draft)
def sEdges (b : Nat → Nat) (len : Nat) : Nat → Nat → Bool → Nat → Ps → Bool × Nat × Ps
  | 0, p, _, _, Q => (false, p, Q)
  | f + 1, p, k0, u, Q =>
    if (k0 || decide (tK b len p = 2)) = true then
      (if (ism 0 (Q.n - 1) b len p && (!decide (tN b len p = u) && !ad Q.E u (tN b len p))) = true then sEdges b len f (tE b len p) false (tN b len p) (Q.wE (ae Q.E u (tN b len p))) else (false, p, Q))
    else (true, p, Q)
def sPath (b : Nat → Nat) (len p : Nat) (Q : Ps) : Bool × Nat × Ps :=
  if ism 0 (Q.n - 1) b len (tE b len p) = true then sEdges b len (len + 1) (tE b len (tE b len p)) true (tN b len (tE b len p)) Q else (false, tE b len p, Q)
def sPile (b : Nat → Nat) (len p : Nat) (Q : Ps) : Bool × Nat × Ps :=
  if ism 0 (Q.n - 1) b len (tE b len p) = true then
    (if ism 0 999 b len (tE b len (tE b len p)) = true then (true, tE b len (tE b len (tE b len p)), Q.wp (upl Q.pl (tN b len (tE b len p)) (tN b len (tE b len (tE b len p))))) else (false, tE b len (tE b len p), Q))
  else (false, tE b len p, Q)
def sW1 (b : Nat → Nat) (len p : Nat) (Q : Ps) : Bool × Nat × Ps :=
  if (ism 0 (Q.n - 1) b len p && !decide (tN b len p = Q.tg (Q.sc - 1))) = true then
    (if ism 0 (Q.n - 1) b len (tE b len p) = true then
      (if ism 0 64 b len (tE b len (tE b len p)) = true then (true, tE b len (tE b len (tE b len p)), Q.wS Q.sc Q.tg (uwt (Q.sc - 1) (tN b len p) (tN b len (tE b len (tE b len p))) Q.wt) (uwt (Q.sc - 1) (tN b len p) (some (tN b len (tE b len p))) Q.pr))
      else (false, tE b len (tE b len p), Q))
    else (false, tE b len p, Q))
  else (false, p, Q)
def sWs (b : Nat → Nat) (len : Nat) : Nat → Nat → Ps → Bool × Nat × Ps
  | 0, p, Q => (false, p, Q)
  | f + 1, p, Q => if tK b len p = 2 then (if (sW1 b len p Q).1 = true then sWs b len f (sW1 b len p Q).2.1 (sW1 b len p Q).2.2 else sW1 b len p Q) else (true, p, Q)
def sStr (b : Nat → Nat) (len p : Nat) (Q : Ps) : Bool × Nat × Ps :=
  if Q.sc = 6 then (false, p, Q) else
  if ism 0 (Q.n - 1) b len (tE b len p) = true then sWs b len (len + 1) (tE b len (tE b len p)) (Q.wS (Q.sc + 1) (otg Q.sc Q.tg (tN b len (tE b len p))) (owt Q.sc Q.wt) (opr Q.sc Q.pr)) else (false, tE b len p, Q)
def sStmt (b : Nat → Nat) (len p : Nat) (Q : Ps) : Bool × Nat × Ps :=
  if wd 1 b len p = true then sPath b len p Q else if wd 2 b len p = true then sPile b len p Q else if wd 3 b len p = true then sStr b len p Q else (false, p, Q)
def sAll (b : Nat → Nat) (len : Nat) : Nat → Nat → Ps → Bool × Nat × Ps
  | 0, p, Q => (false, p, Q)
  | f + 1, p, Q => if tK b len p = 3 ∧ b (tS b len p) = 59 then (if (sStmt b len (tE b len p) Q).1 = true then sAll b len f (sStmt b len (tE b len p) Q).2.1 (sStmt b len (tE b len p) Q).2.2 else sStmt b len (tE b len p) Q) else (true, p, Q)
def sText (b : Nat → Nat) (len : Nat) : Bool × Nat × Ps :=
  if wd 0 b len 0 = true then (if ism 1 6 b len (tE b len 0) = true then sAll b len (len + 1) (tE b len (tE b len 0)) (Qn (tN b len (tE b len 0))) else (false, tE b len 0, Qn 1)) else (false, 0, Qn 1)
/-- the text is valid -/
def good (b : Nat → Nat) (len : Nat) : Bool := (sText b len).1 && (decide (tK b len (sText b len).2.1 = 0) && decide (pcn (bl (sText b len).2.2.n (sText b len).2.2.E 0 ((sText b len).2.2.n - 1)) (sText b len).2.2.n = (sText b len).2.2.n))
section SPEC
variable {b : Nat → Nat} {len p : Nat} {Q : Ps} {T : Tx}
theorem qNext (h : AT b len p T) : ∃ T', F_66 T = some T' ∧ AT b len (tE b len p) T' ∧ T'.draft = T.draft := by
  obtain ⟨hT, hp, hC⟩ := h
  have k1 := tE_le (b := b) hp
  obtain ⟨T2, t1, t2, t3⟩ := c66 hT k1.2 hC.2.1
  exact ⟨T2, t1, ⟨hT.of t3, k1.2, t2⟩, t3.2.2⟩
theorem qNextD (h : AT b len p T) (D : Bd) : ∃ T1 T', T.w_draft D = T1 ∧ F_66 T1 = some T' ∧ AT b len (tE b len p) T' ∧ T'.draft = D := by
  obtain ⟨hT, hp, hC⟩ := h
  have k1 := tE_le (b := b) hp
  obtain ⟨T1, hT1, u1, u2, u3, u4, u5, u6, u7⟩ := tx_draft T D
  have hT1x : TX b len T1 := ⟨u5.trans hT.1, hT.2.1, fun i hi => by rw [u6]; exact hT.2.2 i hi⟩
  obtain ⟨T2, t1, t2, t3⟩ := c66 hT1x k1.2 (u2.trans hC.2.1)
  exact ⟨T1, T2, hT1, t1, ⟨hT1x.of t3, k1.2, t2⟩, t3.2.2.trans u7⟩
theorem qVal (h : AT b len p T) {lo hi : Nat} (his : ism lo hi b len p = true) : T.value = nI (tN b len p) ∧ lo ≤ tN b len p ∧ tN b len p ≤ hi ∧ p < tE b len p := by
  obtain ⟨q1, q2, q3, q4⟩ := of_decide_eq_true his
  exact ⟨by rw [h.2.2.2.2.2.1 q1, if_pos q2], q3, q4, tE_gt h.2.1 his⟩
theorem qNum (h : AT b len p T) {lo hi : Nat} (hlo : lo < 2 ^ 31) (hhi : hi < 2 ^ 31) : F_69 T (nI lo) (nI hi) = some (bI (ism lo hi b len p)) := c69 h.2.1 h.2.2 hlo hhi
theorem qVert (h : AT b len p T) (hD : DQ Q T.draft) : F_70 T = some (bI (ism 0 (Q.n - 1) b len p)) := by
  have h1 := hD.2.2.2.2.1.1
  have h6 := hD.2.2.2.2.1.2.1
  unfold F_70
  rw [hD.1.1, z1, pk_sub h1, z0, qNum h (lo := 0) (hi := Q.n - 1) (by decide) (by omega), Option.bind_some, ← z0, ← z1]
  exact bI_ok
theorem DQ.edge {B B' : Bd} {u v : Nat} (h : DQ Q B) (hu : u < Q.n) (hv : v < Q.n) (hne : ¬ u = v) (hB : CB Q.n (ae Q.E u v) B' ∧ B'.pile = B.pile ∧ B'.moveCount = B.moveCount ∧ B'.strategyCount = B.strategyCount ∧ B'.targets = B.targets ∧ B'.weights = B.weights ∧ B'.parents = B.parents) : DQ (Q.wE (ae Q.E u v)) B' := by
  obtain ⟨r1, r2, r3, r4, r5, r6, r7⟩ := h
  obtain ⟨b1, b2, b3, b4, b5, b6, b7⟩ := hB
  exact ⟨b1, fun w hw => by rw [b2]; exact r2 w hw, b3.trans r3, ⟨b4.trans r4.1, fun k hk => by rw [b5, b6, b7]; exact r4.2 k hk⟩, r5.ae hu hv hne, r6, r7⟩
theorem qEdges : ∀ (f p k : Nat) (k0 : Bool) (u : Nat) (Q : Ps) (T : Tx), AT b len p T → DQ Q T.draft → u < Q.n → (k0 = true ↔ k = 0) → k + 1 ≤ p → len - p < f → ∀ K, f ≤ K →
    ∃ T', lw G_75_24 K (nI u, nI k, T) = some (if (sEdges b len f p k0 u Q).1 = true then .inl T' else .inr (0, T')) ∧ RO b len p T' (sEdges b len f p k0 u Q)
  | 0, p, k, k0, u, Q, T, hA, hD, hu, hk0, hk, hf, K, hK => absurd hf (Nat.not_lt_zero _)
  | f + 1, p, k, k0, u, Q, T, hA, hD, hu, hk0, hk, hf, K, hK => by
    obtain ⟨K, rfl⟩ : ∃ j, K = j + 1 := ⟨K - 1, by omega⟩
    obtain ⟨hT, hp, hC⟩ := id hA
    have h4 := hT.2.1
    have hG := hD.2.2.2.2.1
    have hn6 := hG.2.1
    have hE := hG.E_lt
    have k3 := tK_le b len p
    rw [sEdges]
    by_cases hc : (k0 || decide (tK b len p = 2)) = true
    · rw [if_pos hc]
      have cs : G_75_24 (nI u, nI k, T) = J_75_24_j43 T (nI u) (nI k) := by
        simp only [G_75_24]
        rw [show (400 : Int32) = nI 400 from rfl, if_neg (nI_ge (by omega) (by omega))]
        by_cases hz : k = 0
        · subst hz
          rw [if_pos (show nI 0 = 0 from rfl)]
        · have hk2 : tK b len p = 2 := by
            cases k0 with
            | true => exact absurd (hk0.1 rfl) hz
            | false => exact of_decide_eq_true (by rw [Bool.false_or] at hc; exact hc)
          have q : T.kind = 2 := by rw [hC.2.2.1, hk2]; rfl
          rw [if_neg (by rw [z0, nI_eq (by omega) (by omega)]; exact hz), if_neg (fun z => z q)]
      have hv := qVert hA hD
      by_cases hi : (ism 0 (Q.n - 1) b len p && (!decide (tN b len p = u) && !ad Q.E u (tN b len p))) = true
      · rw [if_pos hi]
        rw [Bool.and_eq_true, Bool.and_eq_true] at hi
        obtain ⟨i1, i2, i3⟩ := hi
        obtain ⟨v1, v2, v3, v4⟩ := qVal hA i1
        have hne : ¬ tN b len p = u := of_decide_eq_false (by cases hh : decide (tN b len p = u) with | false => rfl | true => rw [hh] at i2; cases i2)
        have had : ad Q.E u (tN b len p) = false := by cases hh : ad Q.E u (tN b len p) with | false => rfl | true => rw [hh] at i3; cases i3
        have h1 := hG.1
        have hvn : tN b len p < Q.n := by omega
        obtain ⟨D, hD4, hD'⟩ := c4 hD.1 (u := u) (v := tN b len p) (by omega) (by omega)
        obtain ⟨T1, T2, t1, t2, t3, t4⟩ := qNextD hA D
        have dq : DQ (Q.wE (ae Q.E u (tN b len p))) T2.draft := by rw [t4]; exact hD.edge hu hvn (fun z => hne z.symm) hD'
        have u4 : T1.value = nI (tN b len p) := by rw [← t1]; exact v1
        have kk := tE_le (b := b) hp
        obtain ⟨T', r1, r2, r3, r4⟩ := qEdges f (tE b len p) (k + 1) false (tN b len p) _ T2 t3 dq hvn ⟨fun z => (by cases z), fun z => absurd z (by omega)⟩ (by omega) (by omega) K (by omega)
        refine ⟨T', (lw_one ?_).trans r1, r2, by omega, r4⟩
        rw [cs]
        unfold J_75_24_j43
        rw [hv, i1, Option.bind_some, if_neg (by decide), v1, if_neg (by rw [nI_eq (by omega) (by omega)]; exact hne), c6 hD.1 hE (by omega) (by omega), Option.bind_some, had, if_pos (by decide), hD4, Option.bind_some, t1, Option.bind_some, t2, Option.bind_some, u4, z1, nI_add]
      · rw [if_neg hi]
        refine ⟨T, lw_end ?_, hA, Nat.le_refl _, fun z => (by cases z)⟩
        rw [cs]
        unfold J_75_24_j43
        cases i1 : ism 0 (Q.n - 1) b len p with
        | false => rw [hv, i1, Option.bind_some, if_pos (by decide)]; rfl
        | true =>
          obtain ⟨v1, v2, v3, v4⟩ := qVal hA i1
          have h1 := hG.1
          rw [hv, i1, Option.bind_some, if_neg (by decide), v1]
          by_cases hne : tN b len p = u
          · rw [if_pos (by rw [hne])]; rfl
          · rw [if_neg (by rw [nI_eq (by omega) (by omega)]; exact hne), c6 hD.1 hE (by omega) (by omega), Option.bind_some]
            cases had : ad Q.E u (tN b len p) with
            | true => rw [if_neg (by decide)]; rfl
            | false => exact absurd (by rw [i1, had, decide_eq_false hne]; rfl) hi
    · rw [if_neg hc]
      refine ⟨T, lw_end ?_, hA, Nat.le_refl _, fun _ => hD⟩
      have hz : ¬ k = 0 := fun z => hc (by rw [hk0.2 z]; rfl)
      have h2 : ¬ tK b len p = 2 := fun z => hc (by rw [decide_eq_true z, Bool.or_true])
      simp only [G_75_24]
      have q : ¬ T.kind = 2 := by rw [hC.2.2.1, z2, nI_eq (by omega) (by omega)]; exact h2
      rw [show (400 : Int32) = nI 400 from rfl, if_neg (nI_ge (by omega) (by omega)), if_neg (by rw [z0, nI_eq (by omega) (by omega)]; exact hz), if_pos q]
      rfl
theorem qPath (hA : AT b len p T) (hD : DQ Q T.draft) : ∃ T', F_75 T = some (bI (sPath b len p Q).1, T') ∧ RO b len p T' (sPath b len p Q) := by
  have g1 := tE_ge (b := b) hA.2.1
  have h4 := hA.1.2.1
  obtain ⟨A, a1, a2, a3⟩ := qNext hA
  have hDA : DQ Q A.draft := by rw [a3]; exact hD
  have hG := hD.2.2.2.2.1
  have h1 := hG.1
  have hv := qVert a2 hDA
  unfold sPath
  cases i1 : ism 0 (Q.n - 1) b len (tE b len p) with
  | false =>
    rw [i1] at hv
    rw [if_neg (by decide)]
    refine ⟨A, ?_, a2, g1, fun z => (by cases z)⟩
    unfold F_75
    rw [a1, Option.bind_some, hv, Option.bind_some, if_neg (by decide)]
    rfl
  | true =>
    rw [i1] at hv
    obtain ⟨v1, v2, v3, v4⟩ := qVal a2 i1
    obtain ⟨B, b1, b2, b3⟩ := qNext a2
    obtain ⟨T', r1, r2, r3, r4⟩ := qEdges (len + 1) (tE b len (tE b len p)) 0 true (tN b len (tE b len p)) Q B b2 (by rw [b3]; exact hDA) (by omega) ⟨fun _ => rfl, fun _ => rfl⟩ (by omega) (by omega) 200000 (by omega)
    rw [if_pos rfl]
    refine ⟨T', ?_, r2, by omega, r4⟩
    unfold F_75
    rw [a1, Option.bind_some, hv, Option.bind_some, if_pos (by decide), b1, Option.bind_some, v1, z0, r1, Option.bind_some]
    cases (sEdges b len (len + 1) (tE b len (tE b len p)) true (tN b len (tE b len p)) Q).1 with
    | true => rfl
    | false => rfl
theorem qPile (hA : AT b len p T) (hD : DQ Q T.draft) : ∃ T', F_76 T = some (bI (sPile b len p Q).1, T') ∧ RO b len p T' (sPile b len p Q) := by
  have g1 := tE_ge (b := b) hA.2.1
  obtain ⟨A, a1, a2, a3⟩ := qNext hA
  have hDA : DQ Q A.draft := by rw [a3]; exact hD
  have hG := hD.2.2.2.2.1
  have h1 := hG.1
  have h6 := hG.2.1
  have hv := qVert a2 hDA
  unfold sPile
  cases i1 : ism 0 (Q.n - 1) b len (tE b len p) with
  | false =>
    rw [i1] at hv
    rw [if_neg (by decide)]
    refine ⟨A, ?_, a2, g1, fun z => (by cases z)⟩
    unfold F_76
    rw [a1, Option.bind_some, hv, Option.bind_some, if_neg (by decide)]
    rfl
  | true =>
    rw [i1] at hv
    obtain ⟨v1, v2, v3, v4⟩ := qVal a2 i1
    obtain ⟨B, b1, b2, b3⟩ := qNext a2
    have hDB : DQ Q B.draft := by rw [b3]; exact hDA
    have w1 : F_69 B 0 999 = some (bI (ism 0 999 b len (tE b len (tE b len p)))) := qNum b2 (lo := 0) (hi := 999) (by decide) (by decide)
    rw [if_pos rfl]
    cases i2 : ism 0 999 b len (tE b len (tE b len p)) with
    | false =>
      rw [i2] at w1
      rw [if_neg (by decide)]
      refine ⟨B, ?_, b2, by show p ≤ tE b len (tE b len p); omega, fun z => (by cases z)⟩
      unfold F_76
      rw [a1, Option.bind_some, hv, Option.bind_some, if_pos (by decide), b1, Option.bind_some, w1, Option.bind_some, if_neg (by decide)]
      rfl
    | true =>
      rw [i2] at w1
      obtain ⟨x1, x2, x3, x4⟩ := qVal b2 i2
      obtain ⟨D, hD4, f1, f2, f3, f4, f5, f6, f7, f8⟩ := bd_pile B.draft (upd B.draft.pile (tN b len (tE b len p)) (nI (tN b len (tE b len (tE b len p)))))
      obtain ⟨T1, T2, t1, t2, t3, t4⟩ := qNextD b2 D
      rw [if_pos rfl]
      refine ⟨T2, ?_, t3, by show p ≤ tE b len (tE b len (tE b len p)); omega, fun _ => ?_⟩
      · unfold F_76
        rw [a1, Option.bind_some, hv, Option.bind_some, if_pos (by decide), b1, Option.bind_some, w1, Option.bind_some, if_pos (by decide), v1, ixn (by omega) (by decide), Option.bind_some, x1, hD4, Option.bind_some, t1, Option.bind_some, t2]
        rfl
      · rw [t4]
        obtain ⟨r1, r2, r3, r4, r5, r6, r7⟩ := hDB
        refine ⟨⟨f2.trans r1.1, f3.trans r1.2⟩, fun w hw => ?_, f4.trans r3, ⟨f5.trans r4.1, fun k hk => by rw [f6, f7, f8]; exact r4.2 k hk⟩, r5, r6, fun w hw => ?_⟩
        · rw [f1]
          show _ = nI (upl Q.pl _ _ w)
          unfold upl
          by_cases q : w = tN b len (tE b len p)
          · rw [q, pk_us, if_pos rfl]
          · rw [pk_un q, if_neg q]; exact r2 w hw
        · show upl Q.pl _ _ w ≤ 999
          unfold upl
          split
          · exact x3
          · exact r7 w hw
theorem DQ.str {B B' : Bd} {sc' : Nat} {tg' : Nat → Nat} {wt' : Nat → Nat → Nat} {pr' : Nat → Nat → Option Nat} (h : DQ Q B) (hB : B'.vertices = B.vertices ∧ B'.edges = B.edges ∧ B'.pile = B.pile ∧ B'.moveCount = B.moveCount) (hC : CS Q.n sc' tg' wt' pr' B') (hO : SO Q.n sc' tg' wt' pr') : DQ (Q.wS sc' tg' wt' pr') B' := by
  obtain ⟨r1, r2, r3, r4, r5, r6, r7⟩ := h
  obtain ⟨b1, b2, b3, b4⟩ := hB
  exact ⟨⟨b1.trans r1.1, b2.trans r1.2⟩, fun w hw => by rw [b3]; exact r2 w hw, b4.trans r3, hC, r5, hO, r7⟩
theorem qW1 (hA : AT b len p T) (hD : DQ Q T.draft) (hs : 1 ≤ Q.sc) : ∃ T', F_78 T (nI (Q.sc - 1)) = some (bI (sW1 b len p Q).1, T') ∧ RO b len p T' (sW1 b len p Q) ∧ ((sW1 b len p Q).1 = true → p < (sW1 b len p Q).2.1 ∧ (sW1 b len p Q).2.2.sc = Q.sc) := by
  have hG := hD.2.2.2.2.1
  have hSO := hD.2.2.2.2.2.1
  have hCS := hD.2.2.2.1
  have s6 := hSO.1
  have h1 := hG.1
  have h6 := hG.2.1
  have htg := (hSO.2 (Q.sc - 1) (by omega)).1
  have htc : T.draft.targets (Q.sc - 1) = nI (Q.tg (Q.sc - 1)) := (hCS.2 _ (by omega)).1
  have hv := qVert hA hD
  unfold sW1
  cases i1 : ism 0 (Q.n - 1) b len p with
  | false =>
    rw [i1] at hv
    rw [Bool.false_and, if_neg (by decide)]
    refine ⟨T, ?_, ⟨hA, Nat.le_refl _, fun z => (by cases z)⟩, fun z => (by cases z)⟩
    unfold F_78
    rw [hv, Option.bind_some, if_pos (by decide)]
    rfl
  | true =>
    rw [i1] at hv
    obtain ⟨v1, v2, v3, v4⟩ := qVal hA i1
    by_cases hvt : tN b len p = Q.tg (Q.sc - 1)
    · rw [decide_eq_true hvt, if_neg (by decide)]
      refine ⟨T, ?_, ⟨hA, Nat.le_refl _, fun z => (by cases z)⟩, fun z => (by cases z)⟩
      unfold F_78
      rw [hv, Option.bind_some, if_neg (by decide), ixn (by omega) (by decide), Option.bind_some, v1, htc, hvt, if_neg (fun z => z rfl)]
      rfl
    · rw [decide_eq_false hvt, if_pos (by decide)]
      have hne : ¬ nI (tN b len p) = nI (Q.tg (Q.sc - 1)) := by rw [nI_eq (by omega) (by omega)]; exact hvt
      obtain ⟨A, a1, a2, a3⟩ := qNext hA
      have hDA : DQ Q A.draft := by rw [a3]; exact hD
      have hv2 := qVert a2 hDA
      cases i2 : ism 0 (Q.n - 1) b len (tE b len p) with
      | false =>
        rw [i2] at hv2
        rw [if_neg (by decide)]
        refine ⟨A, ?_, ⟨a2, by show p ≤ tE b len p; omega, fun z => (by cases z)⟩, fun z => (by cases z)⟩
        unfold F_78
        rw [hv, Option.bind_some, if_neg (by decide), ixn (by omega) (by decide), Option.bind_some, v1, htc, if_pos hne, a1, Option.bind_some, hv2, Option.bind_some, if_neg (by decide)]
        rfl
      | true =>
        rw [i2] at hv2
        rw [if_pos rfl]
        obtain ⟨w1, w2, w3, w4⟩ := qVal a2 i2
        obtain ⟨B, b1, b2, b3⟩ := qNext a2
        have hDB : DQ Q B.draft := by rw [b3]; exact hDA
        have x0 : F_69 B 0 64 = some (bI (ism 0 64 b len (tE b len (tE b len p)))) := qNum b2 (lo := 0) (hi := 64) (by decide) (by decide)
        cases i3 : ism 0 64 b len (tE b len (tE b len p)) with
        | false =>
          rw [i3] at x0
          rw [if_neg (by decide)]
          refine ⟨B, ?_, ⟨b2, by show p ≤ tE b len (tE b len p); omega, fun z => (by cases z)⟩, fun z => (by cases z)⟩
          unfold F_78
          rw [hv, Option.bind_some, if_neg (by decide), ixn (by omega) (by decide), Option.bind_some, v1, htc, if_pos hne, a1, Option.bind_some, hv2, Option.bind_some, if_pos (by decide), b1, Option.bind_some, x0, Option.bind_some, if_neg (by decide)]
          rfl
        | true =>
          rw [i3] at x0
          rw [if_pos rfl]
          obtain ⟨x1, x2, x3, x4⟩ := qVal b2 i3
          have uc := uCS (k := Q.sc - 1) (v := tN b len p) (q := tN b len (tE b len p)) (w := tN b len (tE b len (tE b len p))) hDB.2.2.2.1 h6 (by omega)
          obtain ⟨D, hD4, g1⟩ := bd_wp B.draft (upd B.draft.weights (6 * (Q.sc - 1) + tN b len p) (nI (tN b len (tE b len (tE b len p))))) (upd B.draft.parents (6 * (Q.sc - 1) + tN b len p) (nI (tN b len (tE b len p))))
          rw [hD4] at uc
          obtain ⟨T1, T2, t1, t2, t3, t4⟩ := qNextD b2 D
          refine ⟨T2, ?_, ⟨t3, by show p ≤ tE b len (tE b len (tE b len p)); omega, fun _ => ?_⟩, fun _ => ⟨by show p < tE b len (tE b len (tE b len p)); omega, rfl⟩⟩
          · unfold F_78
            rw [hv, Option.bind_some, if_neg (by decide), ixn (by omega) (by decide), Option.bind_some, v1, htc, if_pos hne, a1, Option.bind_some, hv2, Option.bind_some, if_pos (by decide), b1, Option.bind_some, x0, Option.bind_some, if_pos (by decide), w1, x1, c27 (by omega), hD4, Option.bind_some, t1, Option.bind_some, t2]
            rfl
          · rw [t4]
            exact hDB.str g1 uc (uSO hSO (by omega) (by omega))
theorem qWs : ∀ (f p k : Nat) (Q : Ps) (T : Tx), AT b len p T → DQ Q T.draft → 1 ≤ Q.sc → k + 1 ≤ p → len - p < f → ∀ K, f ≤ K →
    ∃ T', lw G_77_44 K (nI k, T) = some (if (sWs b len f p Q).1 = true then .inl T' else .inr (0, T')) ∧ RO b len p T' (sWs b len f p Q)
  | 0, p, k, Q, T, hA, hD, hs, hk, hf, K, hK => absurd hf (Nat.not_lt_zero _)
  | f + 1, p, k, Q, T, hA, hD, hs, hk, hf, K, hK => by
    obtain ⟨K, rfl⟩ : ∃ j, K = j + 1 := ⟨K - 1, by omega⟩
    obtain ⟨hT, hp, hC⟩ := id hA
    have h4 := hT.2.1
    have k3 := tK_le b len p
    have s6 := hD.2.2.2.2.2.1.1
    rw [sWs]
    by_cases h2 : tK b len p = 2
    · rw [if_pos h2]
      have kt : T.kind = 2 := by rw [hC.2.2.1, h2]; rfl
      obtain ⟨T1, e1, ⟨r1, r2, r3⟩, r4⟩ := qW1 hA hD hs
      have cs : G_77_44 (nI k, T) = (if ¬ bI (sW1 b len p Q).1 = 0 then some (.inl (nI k + 1, T1)) else some (.inr (.inr (0, T1)))) := by
        simp only [G_77_44]
        rw [show (400 : Int32) = nI 400 from rfl, if_neg (nI_ge (by omega) (by omega)), if_neg (fun z => z kt), hD.2.2.2.1.1, z1, pk_sub (by omega), e1, Option.bind_some]
      cases q : (sW1 b len p Q).1 with
      | false =>
        rw [if_neg (by decide)]
        refine ⟨T1, lw_end ?_, r1, r2, fun z => absurd z (by rw [q]; decide)⟩
        rw [cs, q, if_neg (by decide)]
        rfl
      | true =>
        rw [if_pos rfl]
        obtain ⟨l1, l2⟩ := r4 q
        have r5 := r1.2.1
        obtain ⟨T', x1, x2, x3, x4⟩ := qWs f (sW1 b len p Q).2.1 (k + 1) (sW1 b len p Q).2.2 T1 r1 (r3 q) (by omega) (by omega) (by omega) K (by omega)
        refine ⟨T', (lw_one ?_).trans x1, x2, by omega, x4⟩
        rw [cs, q, if_pos (by decide), nI_1]
    · rw [if_neg h2]
      refine ⟨T, lw_end ?_, hA, Nat.le_refl _, fun _ => hD⟩
      simp only [G_77_44]
      have q : ¬ T.kind = 2 := by rw [hC.2.2.1, z2, nI_eq (by omega) (by omega)]; exact h2
      rw [show (400 : Int32) = nI 400 from rfl, if_neg (nI_ge (by omega) (by omega)), if_pos q]
      rfl
theorem qStr (hA : AT b len p T) (hD : DQ Q T.draft) : ∃ T', F_77 T = some (bI (sStr b len p Q).1, T') ∧ RO b len p T' (sStr b len p Q) := by
  have g1 := tE_ge (b := b) hA.2.1
  have hG := hD.2.2.2.2.1
  have hSO := hD.2.2.2.2.2.1
  have hCS := hD.2.2.2.1
  have s6 := hSO.1
  have h1 := hG.1
  have h6 := hG.2.1
  have h4 := hA.1.2.1
  unfold sStr
  by_cases hs : Q.sc = 6
  · rw [if_pos hs]
    refine ⟨T, ?_, hA, Nat.le_refl _, fun z => (by cases z)⟩
    unfold F_77
    rw [hCS.1, hs, if_neg (by decide)]
    rfl
  · rw [if_neg hs]
    have hcl : T.draft.strategyCount < 6 := by rw [hCS.1]; exact nI_lt (b := 6) (by omega) (by decide)
    obtain ⟨A, a1, a2, a3⟩ := qNext hA
    have hDA : DQ Q A.draft := by rw [a3]; exact hD
    have hv := qVert a2 hDA
    cases i1 : ism 0 (Q.n - 1) b len (tE b len p) with
    | false =>
      rw [i1] at hv
      rw [if_neg (by decide)]
      refine ⟨A, ?_, a2, g1, fun z => (by cases z)⟩
      unfold F_77
      rw [if_pos hcl, a1, Option.bind_some, hv, Option.bind_some, if_neg (by decide)]
      rfl
    | true =>
      rw [i1] at hv
      rw [if_pos rfl]
      obtain ⟨v1, v2, v3, v4⟩ := qVal a2 i1
      obtain ⟨f, g, h, f1, f2, f3, f4⟩ := c25 hDA.2.2.2.1 (by omega) (tN b len (tE b len p))
      have cS := c25S hDA.2.2.2.1 h6 f2 f3 f4
      obtain ⟨D, hD4, g2⟩ := bd_sbw A.draft f g h (nI (Q.sc + 1))
      rw [hD4] at cS f1
      obtain ⟨T1, T2, t1, t2, t3, t4⟩ := qNextD a2 D
      have dq : DQ (Q.wS (Q.sc + 1) (otg Q.sc Q.tg (tN b len (tE b len p))) (owt Q.sc Q.wt) (opr Q.sc Q.pr)) T2.draft := by
        rw [t4]
        exact hDA.str g2 cS (oSO hSO (by omega) (by omega))
      obtain ⟨T', r1, r2, r3, r4⟩ := qWs (len + 1) (tE b len (tE b len p)) 0 _ T2 t3 dq (show 1 ≤ Q.sc + 1 by omega) (by omega) (by omega) 200000 (by omega)
      refine ⟨T', ?_, r2, by omega, r4⟩
      unfold F_77
      rw [if_pos hcl, a1, Option.bind_some, hv, Option.bind_some, if_pos (by decide), v1, f1, Option.bind_some, t1, Option.bind_some, t2, Option.bind_some, z0, r1, Option.bind_some]
      cases (sWs b len (len + 1) (tE b len (tE b len p)) (Q.wS (Q.sc + 1) (otg Q.sc Q.tg (tN b len (tE b len p))) (owt Q.sc Q.wt) (opr Q.sc Q.pr))).1 with
      | true => rfl
      | false => rfl
theorem qStmt (hA : AT b len p T) (hD : DQ Q T.draft) : ∃ T', F_74 T = some (bI (sStmt b len p Q).1, T') ∧ RO b len p T' (sStmt b len p Q) := by
  have c1 := c68 hA.1 (k := 1) (by decide) hA.2.1 hA.2.2
  have c2 := c68 hA.1 (k := 2) (by decide) hA.2.1 hA.2.2
  have c3 := c68 hA.1 (k := 3) (by decide) hA.2.1 hA.2.2
  unfold sStmt
  cases w1 : wd 1 b len p with
  | true =>
    rw [w1] at c1
    rw [if_pos rfl]
    obtain ⟨T', a1, a2⟩ := qPath hA hD
    refine ⟨T', ?_, a2⟩
    unfold F_74
    rw [c1, Option.bind_some, if_neg (by decide), a1, Option.bind_some]
    exact bI_pr
  | false =>
    rw [w1] at c1
    rw [if_neg (by decide)]
    cases w2 : wd 2 b len p with
    | true =>
      rw [w2] at c2
      rw [if_pos rfl]
      obtain ⟨T', a1, a2⟩ := qPile hA hD
      refine ⟨T', ?_, a2⟩
      unfold F_74
      rw [c1, Option.bind_some, if_pos (by decide), c2, Option.bind_some, if_neg (by decide), a1, Option.bind_some]
      exact bI_pr
    | false =>
      rw [w2] at c2
      rw [if_neg (by decide)]
      cases w3 : wd 3 b len p with
      | true =>
        rw [w3] at c3
        rw [if_pos rfl]
        obtain ⟨T', a1, a2⟩ := qStr hA hD
        refine ⟨T', ?_, a2⟩
        unfold F_74
        rw [c1, Option.bind_some, if_pos (by decide), c2, Option.bind_some, if_pos (by decide), c3, Option.bind_some, if_neg (by decide), a1, Option.bind_some]
        cases (sStr b len p Q).1 <;> rfl
      | false =>
        rw [w3] at c3
        rw [if_neg (by decide)]
        refine ⟨T, ?_, hA, Nat.le_refl _, fun z => (by cases z)⟩
        unfold F_74
        rw [c1, Option.bind_some, if_pos (by decide), c2, Option.bind_some, if_pos (by decide), c3, Option.bind_some, if_pos (by decide)]
        rfl
theorem qAll : ∀ (f p k : Nat) (Q : Ps) (T : Tx), AT b len p T → DQ Q T.draft → k ≤ p → len - p < f → ∀ K, f ≤ K →
    ∃ T', lw G_72_16 (K + 1) (1, nI k, T) = some (bI (sAll b len f p Q).1, T') ∧ RO b len p T' (sAll b len f p Q)
  | 0, p, k, Q, T, hA, hD, hk, hf, K, hK => absurd hf (Nat.not_lt_zero _)
  | f + 1, p, k, Q, T, hA, hD, hk, hf, K, hK => by
    obtain ⟨K, rfl⟩ : ∃ j, K = j + 1 := ⟨K - 1, by omega⟩
    obtain ⟨hT, hp, hC⟩ := id hA
    have h4 := hT.2.1
    have k3 := tK_le b len p
    have k0 := tS_le (b := b) hp
    rw [sAll]
    by_cases hc : tK b len p = 3 ∧ b (tS b len p) = 59
    · rw [if_pos hc]
      have ht : tS b len p < len := by
        have h3 := hc.1
        unfold tK at h3
        split at h3
        · assumption
        · cases h3
      have kt : T.kind = 3 := by rw [hC.2.2.1, hc.1]; rfl
      have vt : T.value = nI (b (tS b len p)) := hC.2.2.2.2 hc.1
      have e3 : tE b len p = tS b len p + 1 := by unfold tE; rw [if_pos hc.1]
      obtain ⟨A, a1, a2, a3⟩ := qNext hA
      obtain ⟨T1, e1, r1, r2, r3⟩ := qStmt a2 (Q := Q) (by rw [a3]; exact hD)
      have r5 := r1.2.1
      have cs : G_72_16 (1, nI k, T) = some (.inl (bI (sStmt b len (tE b len p) Q).1, nI (k + 1), T1)) := by
        have f71 : F_71 T = some 1 := by
          unfold F_71
          rw [if_neg (fun z => z kt), if_neg (fun z => z (by rw [vt, hc.2]; rfl))]
          rfl
        simp only [G_72_16]
        rw [show (400 : Int32) = nI 400 from rfl, if_neg (nI_ge (by omega) (by omega)), if_neg (by decide), f71, Option.bind_some, if_neg (by decide), a1, Option.bind_some, e1, Option.bind_some, z1, nI_add]
      cases q : (sStmt b len (tE b len p) Q).1 with
      | false =>
        rw [if_neg (by decide)]
        refine ⟨T1, (lw_one cs).trans ?_, r1, by omega, fun z => absurd z (by rw [q]; decide)⟩
        rw [q]
        apply lw_end
        simp only [G_72_16]
        by_cases h : 400 ≤ nI (k + 1)
        · rw [if_pos h]
        · rw [if_neg h, if_pos (show bI false = 0 from rfl)]
      | true =>
        rw [if_pos rfl]
        obtain ⟨T', x1, x2, x3, x4⟩ := qAll f _ (k + 1) _ T1 r1 (r3 q) (by omega) (by omega) K (by omega)
        rw [q] at cs
        exact ⟨T', (lw_one cs).trans x1, x2, by omega, x4⟩
    · rw [if_neg hc]
      refine ⟨T, lw_end ?_, hA, Nat.le_refl _, fun _ => hD⟩
      have f71 : F_71 T = some 0 := by
        unfold F_71
        by_cases h3 : tK b len p = 3
        · have kt : T.kind = 3 := by rw [hC.2.2.1, h3]; rfl
          have ht : tS b len p < len := by
            unfold tK at h3
            split at h3
            · assumption
            · cases h3
          have b2 := (hT.2.2 _ ht).2
          rw [if_neg (fun z => z kt), if_pos (by rw [hC.2.2.2.2 h3, show (59 : Int32) = nI 59 from rfl, nI_eq (by omega) (by omega)]; exact fun z => hc ⟨h3, z⟩)]
          rfl
        · rw [if_pos (by rw [hC.2.2.1, show (3 : Int32) = nI 3 from rfl, nI_eq (by omega) (by omega)]; exact h3)]
          rfl
      simp only [G_72_16]
      by_cases hk4 : (400 : Int32) ≤ nI k
      · rw [if_pos hk4]; rfl
      · rw [if_neg hk4, if_neg (by decide), f71, Option.bind_some, if_pos (by decide)]; rfl
/-- the text read to its end -/
theorem qText (hT : TX b len T) : ∃ T', F_72 T = some (if good b len = true then -1 else nI (tS b len (sText b len).2.1), T') ∧ TX b len T' ∧ (good b len = true → DQ (sText b len).2.2 T'.draft ∧ Cn (sText b len).2.2.n (sText b len).2.2.E) := by
  have h4 := hT.2.1
  obtain ⟨A, hA, a1, a2, a3, a4, a5⟩ := tx_stop T 0
  obtain ⟨B, b1, b2, b3⟩ := c66 (hT.of a5) (Nat.zero_le _) (a2.trans nI_0.symm)
  have hB : AT b len 0 B := ⟨(hT.of a5).of b3, Nat.zero_le _, b2⟩
  have e1 := c68 hB.1 (k := 0) (by decide) hB.2.1 hB.2.2
  have main : ∃ T', (F_73 B).bind (fun (v6, B7) => (lw G_72_16 200000 (v6, 0, B7)).bind fun (v19, B20) => J_72_0_j49 B20 v19) = J_72_0_j49 T' (bI (sText b len).1) ∧ RO b len 0 T' (sText b len) := by
    have bad : ∀ C : Tx, lw G_72_16 200000 (0, 0, C) = some (0, C) := fun C => by
      refine lw_end (k := 199999) ?_
      simp only [G_72_16]
      rw [if_neg (by decide), if_pos trivial]
    unfold sText
    cases hwd : wd 0 b len 0 with
    | false =>
      rw [hwd] at e1
      rw [if_neg (by decide)]
      refine ⟨B, ?_, hB, Nat.le_refl _, fun z => (by cases z)⟩
      have e : F_73 B = some (0, B) := by
        unfold F_73
        rw [e1, Option.bind_some, if_neg (by decide)]
      rw [e, Option.bind_some]
      dsimp only
      rw [bad, Option.bind_some]
      rfl
    | true =>
      rw [hwd] at e1
      rw [if_pos rfl]
      obtain ⟨C, c1', c2, c3⟩ := qNext hB
      have e3 : F_69 C 1 6 = some (bI (ism 1 6 b len (tE b len 0))) := qNum c2 (lo := 1) (hi := 6) (by decide) (by decide)
      cases his : ism 1 6 b len (tE b len 0) with
      | false =>
        rw [his] at e3
        rw [if_neg (by decide)]
        refine ⟨C, ?_, c2, Nat.zero_le _, fun z => (by cases z)⟩
        have e : F_73 B = some (0, C) := by
          unfold F_73
          rw [e1, Option.bind_some, if_pos (by decide), c1', Option.bind_some, e3, Option.bind_some, if_neg (by decide)]
        rw [e, Option.bind_some]
        dsimp only
        rw [bad, Option.bind_some]
        rfl
      | true =>
        rw [his] at e3
        rw [if_pos rfl]
        obtain ⟨v1, v2, v3, v4⟩ := qVal c2 his
        obtain ⟨D, d1, d2, d3, d4, d5⟩ := c1 (n := tN b len (tE b len 0)) (tg := fun _ => 0) (wt := fun _ _ => 0) (pr := fun _ _ => none) C.draft
        obtain ⟨T1, T2, t1, t2, t3, t4⟩ := qNextD c2 D
        have dq : DQ (Qn (tN b len (tE b len 0))) T2.draft := by
          rw [t4]
          exact ⟨d2, d3, d4, d5, Gr.zero v2 v3, ⟨Nat.zero_le _, fun k hk => absurd hk (Nat.not_lt_zero _)⟩, fun _ _ => Nat.zero_le _⟩
        obtain ⟨T', x1, x2, x3, x4⟩ := qAll (len + 1) (tE b len (tE b len 0)) 0 _ T2 t3 dq (Nat.zero_le _) (by omega) 199999 (by omega)
        refine ⟨T', ?_, x2, Nat.zero_le _, x4⟩
        have e : F_73 B = some (1, T2) := by
          unfold F_73
          rw [e1, Option.bind_some, if_pos (by decide), c1', Option.bind_some, e3, Option.bind_some, if_pos (by decide), v1, d1, Option.bind_some, t1, Option.bind_some, t2]
          rfl
        rw [e, Option.bind_some]
        dsimp only
        have x1 : lw G_72_16 200000 (1, 0, T2) = _ := x1
        rw [x1, Option.bind_some]
  obtain ⟨D, e2, r1, -, r3⟩ := main
  have e0 : F_72 T = J_72_0_j49 D (bI (sText b len).1) := by
    unfold F_72
    rw [hA, Option.bind_some, b1, Option.bind_some]
    exact e2
  obtain ⟨gT, gp, gC⟩ := id r1
  have k3 := tK_le b len (sText b len).2.1
  have j74 : J_72_0_j74 D = some (nI (tS b len (sText b len).2.1), D) := by
    unfold J_72_0_j74
    rw [gC.1]
    rfl
  refine ⟨D, ?_, gT, fun hg => ?_⟩
  · rw [e0]
    unfold good J_72_0_j49
    cases q1 : (sText b len).1 with
    | false =>
      rw [Bool.false_and, if_pos (show bI false = 0 from rfl), j74, if_neg (by decide)]
    | true =>
      obtain ⟨m1, m2, m3, m4, m5, m6, m7⟩ := r3 q1
      rw [if_neg (by decide), Bool.true_and]
      by_cases h0 : tK b len (sText b len).2.1 = 0
      · rw [if_neg (fun z => z (by rw [gC.2.2.1, h0]; rfl)), decide_eq_true h0, Bool.true_and]
        unfold F_11
        rw [m1.2, c10 m1 m5, Option.bind_some]
        by_cases hcn : pcn (bl (sText b len).2.2.n (sText b len).2.2.E 0 ((sText b len).2.2.n - 1)) (sText b len).2.2.n = (sText b len).2.2.n
        · rw [decide_eq_true hcn, if_pos rfl]
          rfl
        · rw [decide_eq_false hcn, if_neg (show ¬ false = true by decide)]
          exact j74
      · rw [if_pos (by rw [gC.2.2.1, show (0 : Int32) = nI 0 from rfl, nI_eq (by omega) (by omega)]; exact h0), j74, decide_eq_false h0, Bool.false_and, if_neg (by decide)]
  · unfold good at hg
    rw [Bool.and_eq_true, Bool.and_eq_true] at hg
    exact ⟨r3 hg.1, Cn_pcn.1 (of_decide_eq_true hg.2.2)⟩
end SPEC
