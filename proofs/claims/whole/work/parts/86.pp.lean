/-! ===== THE SETUP TEXT: the whole of it ===== -/
section PARSE
variable {b : Nat → Nat} {len n E sc : Nat} {pl : Nat → Nat} {T : Tx} {M : Md} {tg : Nat → Nat} {wt : Nat → Nat → Nat} {pr : Nat → Nat → Option Nat}
/-- something good is read so far -/
def PX (n : Nat) (B : Bd) (R : Nat → Int32) : Prop := ∃ E pl sc tg wt pr, PR n E pl sc tg wt pr B R
theorem bI_pr {r : Bool} {α : Type} {x : α} : (if bI r = 0 ∨ bI r = 1 then some x else none) = some x := bI_ok
/-- a statement -/
theorem p74 {p : Nat} (hP : PT b len p T M) (hX : PX n T.draft M.read) :
    ∃ r T' M', F_74 T = some (bI r, T') ∧ F_160 M = some M' ∧ PF T T' M M' ∧ ((r = true ∧ ∃ p', p ≤ p' ∧ PT b len p' T' M' ∧ PX n T'.draft M'.read) ∨ (r = false ∧ PB len T' M')) := by
  obtain ⟨E, pl, sc, tg, wt, pr, hR⟩ := hX
  obtain ⟨hT, hM, hp, hC, hK, hw⟩ := id hP
  have k0 := tS_le (b := b) hp
  have c1 := c68 hT (k := 1) (by decide) hp hC
  have c2 := c68 hT (k := 2) (by decide) hp hC
  have c3 := c68 hT (k := 3) (by decide) hp hC
  have m1 := m147 hM (k := 1) (by decide) hp hK hw
  have m2 := m147 hM (k := 2) (by decide) hp hK hw
  have m3 := m147 hM (k := 3) (by decide) hp hK hw
  cases w1 : wd 1 b len p with
  | true =>
    rw [w1] at c1 m1
    obtain ⟨r, T', M', a1, a2, a3, a4⟩ := p75 hP hR
    refine ⟨r, T', M', ?_, ?_, a3, ?_⟩
    · unfold F_74
      rw [c1, Option.bind_some, if_neg (by decide), a1, Option.bind_some]
      exact bI_pr
    · unfold F_160
      rw [m1, Option.bind_some, if_neg (by decide), a2, Option.bind_some]
      rfl
    · rcases a4 with ⟨q, E', p', x1, x2, x3⟩ | q
      · exact .inl ⟨q, p', x1, x2, _, _, _, _, _, _, x3⟩
      · exact .inr q
  | false =>
    rw [w1] at c1 m1
    cases w2 : wd 2 b len p with
    | true =>
      rw [w2] at c2 m2
      obtain ⟨r, T', M', a1, a2, a3, a4⟩ := p76 hP hR
      refine ⟨r, T', M', ?_, ?_, a3, ?_⟩
      · unfold F_74
        rw [c1, Option.bind_some, if_pos (by decide), c2, Option.bind_some, if_neg (by decide), a1, Option.bind_some]
        exact bI_pr
      · unfold F_160
        rw [m1, Option.bind_some, if_pos (by decide), m2, Option.bind_some, if_neg (by decide), a2, Option.bind_some]
        rfl
      · rcases a4 with ⟨q, E', p', x1, x2, x3⟩ | q
        · exact .inl ⟨q, p', x1, x2, _, _, _, _, _, _, x3⟩
        · exact .inr q
    | false =>
      rw [w2] at c2 m2
      cases w3 : wd 3 b len p with
      | true =>
        rw [w3] at c3 m3
        obtain ⟨r, T', M', a1, a2, a3, a4⟩ := p77 hP hR
        refine ⟨r, T', M', ?_, ?_, a3, ?_⟩
        · unfold F_74
          rw [c1, Option.bind_some, if_pos (by decide), c2, Option.bind_some, if_pos (by decide), c3, Option.bind_some, if_neg (by decide), a1, Option.bind_some]
          cases r <;> rfl
        · unfold F_160
          rw [m1, Option.bind_some, if_pos (by decide), m2, Option.bind_some, if_pos (by decide), m3, Option.bind_some, if_neg (by decide), a2, Option.bind_some]
          rfl
        · rcases a4 with ⟨q, s, t, u, v, p', x1, x2, x3⟩ | q
          · exact .inl ⟨q, p', x1, x2, _, _, _, _, _, _, x3⟩
          · exact .inr q
      | false =>
        rw [w3] at c3 m3
        obtain ⟨y, hy, y1, y2, y3, y4, y5, y6, y7⟩ := md_wrong M (nI (tS b len p))
        refine ⟨false, T, y, ?_, ?_, ⟨rfl, rfl, y7⟩, .inr ⟨rfl, tS b len p, k0.2, hC.1, y6⟩⟩
        · unfold F_74
          rw [c1, Option.bind_some, if_pos (by decide), c2, Option.bind_some, if_pos (by decide), c3, Option.bind_some, if_pos (by decide)]
          rfl
        · unfold F_160
          rw [m1, Option.bind_some, if_pos (by decide), m2, Option.bind_some, if_pos (by decide), m3, Option.bind_some, if_pos (by decide), m145g hw hK.1, Option.bind_some, hy]
          rfl
theorem p161w {e : Nat} (hw : M.wrong = nI e) (he : e < 2 ^ 31) (k : Nat) : lw (G_161_22) (k + 1) M = some M := by
  apply lw_end
  simp only [G_161_22]
  rw [m146n hw he, Option.bind_some, if_pos rfl]
theorem p72w (k : Nat) (x : Int32) : lw (G_72_16) (k + 1) (0, x, T) = some (0, T) := by
  apply lw_end
  simp only [G_72_16]
  by_cases h : 400 ≤ x
  · rw [if_pos h]
  · rw [if_neg h, if_pos trivial]
theorem p72s {p k : Nat} (hP : PT b len p T M) (hX : PX n T.draft M.read) (hk : k ≤ p) :
    (G_161_22 M = some (.inr M) ∧ G_72_16 (1, nI k, T) = some (.inr (1, T))) ∨
    (∃ r T' M', G_72_16 (1, nI k, T) = some (.inl (bI r, nI (k + 1), T')) ∧ G_161_22 M = some (.inl M') ∧ PF T T' M M' ∧ ((r = true ∧ ∃ p', p < p' ∧ PT b len p' T' M' ∧ PX n T'.draft M'.read) ∨ (r = false ∧ PB len T' M'))) := by
  obtain ⟨hT, hM, hp, hC, hK, hw⟩ := id hP
  have h4 := hT.2.1
  have k3 := tK_le b len p
  have k0 := tS_le (b := b) hp
  by_cases h3 : tK b len p = 3
  · have ht : tS b len p < len := by
      unfold tK at h3
      split at h3
      · assumption
      · cases h3
    have kt : T.kind = 3 := by rw [hC.2.2.1, h3]; rfl
    have km : M.kind = 3 := by rw [hK.2.2.1, h3]; rfl
    have vt : T.value = nI (b (tS b len p)) := hC.2.2.2.2 h3
    obtain ⟨vm, b2⟩ := hM.2.2 _ ht
    by_cases h59 : b (tS b len p) = 59
    · refine .inr ?_
      obtain ⟨A, X, a1, a2, a3, a4, a5, a6⟩ := nx hP
      have hXA : PX n A.draft X.read := by rw [a4, a5]; exact hX
      obtain ⟨r, T', M', s1, s2, s3, s4⟩ := p74 a3 hXA
      have e3 : tE b len p = tS b len p + 1 := by unfold tE; rw [if_pos h3]
      refine ⟨r, T', M', ?_, ?_, a6.tr s3, ?_⟩
      · simp only [G_72_16]
        have f71 : F_71 T = some 1 := by
          unfold F_71
          rw [if_neg (fun z => z kt), if_neg (fun z => z (by rw [vt, h59]; rfl))]
          rfl
        rw [show (400 : Int32) = nI 400 from rfl, if_neg (nI_ge (by omega) (by omega)), if_neg (by decide), f71, Option.bind_some, if_neg (by decide), a1, Option.bind_some, s1, Option.bind_some, z1, nI_add]
      · simp only [G_161_22]
        rw [m146g hw, Option.bind_some, if_neg (by decide), if_neg (fun z => z km), hK.1, ixn (by omega) (by decide), Option.bind_some, vm, if_neg (fun z => z (by rw [h59]; rfl)), a2, Option.bind_some, s2, Option.bind_some]
      · rcases s4 with ⟨q, p', x1, x2⟩ | q
        · exact .inl ⟨q, p', by omega, x2⟩
        · exact .inr q
    · refine .inl ⟨?_, ?_⟩
      · simp only [G_161_22]
        rw [m146g hw, Option.bind_some, if_neg (by decide), if_neg (fun z => z km), hK.1, ixn (by omega) (by decide), Option.bind_some, vm, if_pos (by rw [show (59 : Int32) = nI 59 from rfl, nI_eq (by omega) (by omega)]; exact h59)]
      · simp only [G_72_16]
        have f71 : F_71 T = some 0 := by
          unfold F_71
          rw [if_neg (fun z => z kt), if_pos (by rw [vt, show (59 : Int32) = nI 59 from rfl, nI_eq (by omega) (by omega)]; exact h59)]
          rfl
        by_cases hk4 : (400 : Int32) ≤ nI k
        · rw [if_pos hk4]
        · rw [if_neg hk4, if_neg (by decide), f71, Option.bind_some, if_pos (by decide)]
  · refine .inl ⟨?_, ?_⟩
    · simp only [G_161_22]
      have q : ¬ M.kind = 3 := by rw [hK.2.2.1, show (3 : Int32) = nI 3 from rfl, nI_eq (by omega) (by omega)]; exact h3
      rw [m146g hw, Option.bind_some, if_neg (by decide), if_pos q]
    · simp only [G_72_16]
      have q : ¬ T.kind = 3 := by rw [hC.2.2.1, show (3 : Int32) = nI 3 from rfl, nI_eq (by omega) (by omega)]; exact h3
      have f71 : F_71 T = some 0 := by
        unfold F_71
        rw [if_pos q]
        rfl
      by_cases hk4 : (400 : Int32) ≤ nI k
      · rw [if_pos hk4]
      · rw [if_neg hk4, if_neg (by decide), f71, Option.bind_some, if_pos (by decide)]
theorem p72l : ∀ (f p k : Nat) (T : Tx) (M : Md), PT b len p T M → PX n T.draft M.read → k ≤ p → len - p ≤ f →
    ∃ M' T' r, lw (G_161_22) (f + 2) M = some M' ∧ lw (G_72_16) (f + 2) (1, nI k, T) = some (bI r, T') ∧ PF T T' M M' ∧
      ((r = true ∧ ∃ p', PT b len p' T' M' ∧ PX n T'.draft M'.read) ∨ (r = false ∧ PB len T' M')) := by
  intro f
  induction f with
  | zero =>
    intro p k T M hP hX hk hf
    rcases p72s hP hX hk with ⟨a, c⟩ | ⟨r, T', M', c1, c2, c3, ⟨rfl, p', c4, c5, c6⟩ | ⟨rfl, c4⟩⟩
    · exact ⟨M, T, true, lw_end a, lw_end c, ⟨rfl, rfl, MF.rf M⟩, .inl ⟨rfl, p, hP, hX⟩⟩
    · exact absurd c5.2.2.1 (by omega)
    · obtain ⟨e, e1, e2, e3⟩ := c4
      have := hP.1.2.1
      exact ⟨M', T', false, (lw_one c2).trans (p161w e3 (by omega) _), (lw_one c1).trans (p72w _ _), c3, .inr ⟨rfl, e, e1, e2, e3⟩⟩
  | succ f ih =>
    intro p k T M hP hX hk hf
    rcases p72s hP hX hk with ⟨a, c⟩ | ⟨r, T', M', c1, c2, c3, ⟨rfl, p', c4, c5, c6⟩ | ⟨rfl, c4⟩⟩
    · exact ⟨M, T, true, lw_end a, lw_end c, ⟨rfl, rfl, MF.rf M⟩, .inl ⟨rfl, p, hP, hX⟩⟩
    · obtain ⟨Y, X, r, x1, x2, x3, x4⟩ := ih p' (k + 1) T' M' c5 c6 (by omega) (by omega)
      exact ⟨Y, X, r, (lw_one c2).trans x1, (lw_one c1).trans x2, c3.tr x3, x4⟩
    · obtain ⟨e, e1, e2, e3⟩ := c4
      have := hP.1.2.1
      exact ⟨M', T', false, (lw_one c2).trans (p161w e3 (by omega) _), (lw_one c1).trans (p72w _ _), c3, .inr ⟨rfl, e, e1, e2, e3⟩⟩
/-- the text read to its end, by both -/
theorem p72 (hT : TX b len T) (hM : MX b len M) :
    ∃ x T' M', F_72 T = some (x, T') ∧ F_161 M = some (x, M') ∧ PF T T' M M' ∧
      ((x = -1 ∧ ∃ n E pl sc tg wt pr, PR n E pl sc tg wt pr T'.draft M'.read ∧ pcn (bl n E 0 (n - 1)) n = n) ∨ (∃ e, e ≤ len ∧ x = nI e)) := by
  have h4 := hT.2.1
  obtain ⟨A, hA, a1, a2, a3, a4, a5⟩ := tx_stop T 0
  obtain ⟨B, b1, b2, b3⟩ := c66 (hT.of a5) (Nat.zero_le _) (a2.trans nI_0.symm)
  obtain ⟨X, hX, x1, x2, x3⟩ := md_at M 0
  obtain ⟨Y, hY, y1, y2, y3, y4, y5, y6, y7⟩ := md_wrong X (-1)
  obtain ⟨Z, q0, q1, q2, q3, q4, q5, q6, q7⟩ := m150 (M := Y) (n := 1) (tg := fun _ => 0) (wt := fun _ _ => 0) (pr := fun _ _ => none)
  have hMZ := (((hM.of x3.1).of y7).of q7)
  obtain ⟨W, w1, w2, w3⟩ := m144 hMZ (Nat.zero_le _) (show Z.at = nI 0 from (q5.trans (y1.trans x1)).trans nI_0.symm)
  have hP : PT b len 0 B W := ⟨(hT.of a5).of b3, hMZ.of w3.1, Nat.zero_le _, b2, w2, w3.2.2.trans (q6.trans y6)⟩
  have pf0 : PF T B M W := ⟨b3.1.trans a5.1, b3.2.1.trans a5.2.1, ((x3.1.tr y7).tr q7).tr w3.1⟩
  obtain ⟨r, C, V, c1, c2, c3, c4⟩ := p73 (tg := fun _ => 0) (wt := fun _ _ => 0) (pr := fun _ _ => none) hP (by rw [w3.2.1]; exact q1) (by rw [w3.2.1]; exact q2) (by rw [w3.2.1]; exact q3) (by rw [w3.2.1]; exact q4)
  have hlp : ∃ r' D U, lw (G_161_22) 200000 V = some U ∧ lw (G_72_16) 200000 (bI r, 0, C) = some (bI r', D) ∧ PF C D V U ∧ ((r' = true ∧ ∃ n p', PT b len p' D U ∧ PX n D.draft U.read) ∨ (r' = false ∧ PB len D U)) := by
    rcases c4 with ⟨rfl, n, p', d1, d2⟩ | ⟨rfl, e, e1, e2, e3⟩
    · obtain ⟨U, D, r', f1, f2, f3, f4⟩ := p72l (n := n) (len - 0 + 199998 - (len - 0)) p' 0 C V d1 ⟨_, _, _, _, _, _, d2⟩ (by omega) (by omega)
      have ef : len - 0 + 199998 - (len - 0) + 2 = 200000 := by omega
      rw [ef] at f1 f2
      refine ⟨r', D, U, f1, f2, f3, ?_⟩
      rcases f4 with ⟨g, p'', g1, g2⟩ | g
      · exact .inl ⟨g, n, p'', g1, g2⟩
      · exact .inr g
    · exact ⟨false, C, V, p161w e3 (by omega) 199999, p72w 199999 0, ⟨rfl, rfl, MF.rf V⟩, .inr ⟨rfl, e, e1, e2, e3⟩⟩
  obtain ⟨r', D, U, f1, f2, f3, f4⟩ := hlp
  have hc : F_72 T = J_72_0_j49 D (bI r') := by
    unfold F_72
    rw [hA, Option.bind_some, b1, Option.bind_some, c1, Option.bind_some]
    show (lw G_72_16 200000 (bI r, 0, C)).bind _ = _
    rw [f2, Option.bind_some]
  have hm : F_161 M = J_161_0_j62 U := by
    unfold F_161
    rw [hX, Option.bind_some, hY, Option.bind_some, q0, Option.bind_some, w1, Option.bind_some, c2, Option.bind_some, f1, Option.bind_some]
  have pf := (pf0.tr c3).tr f3
  rw [hc, hm]
  rcases f4 with ⟨rfl, n, p, g1, E, pl, sc, tg, wt, pr, hR⟩ | ⟨rfl, e, e1, e2, e3⟩
  · obtain ⟨gT, gM, gp, gC, gK, gw⟩ := id g1
    have k0 := tS_le (b := b) gp
    have k3 := tK_le b len p
    have hG := hR.2.2.2.2.2.2.2.2.1
    obtain ⟨y, hy, z1, z2, z3, z4, z5, z6, z7⟩ := md_wrong U (nI (tS b len p))
    have bad : (¬ tK b len p = 0 ∨ ¬ pcn (bl n E 0 (n - 1)) n = n) → J_72_0_j49 D (bI true) = some (nI (tS b len p), D) ∧ J_161_0_j62 U = some (nI (tS b len p), y) := by
      intro hor
      have j86 : J_161_0_j86 U = some (nI (tS b len p), y) := by
        unfold J_161_0_j86
        rw [m145g gw gK.1, Option.bind_some, hy]
        show some (y.wrong, y) = _
        rw [z6]
      have j74 : J_72_0_j74 D = some (nI (tS b len p), D) := by
        unfold J_72_0_j74
        rw [gC.1]
        rfl
      constructor
      · unfold J_72_0_j49
        rw [if_neg (by decide)]
        by_cases h0 : tK b len p = 0
        · rw [if_neg (fun z => z (by rw [gC.2.2.1, h0]; rfl))]
          unfold F_11
          rw [hR.1.2, c10 hR.1 hG, Option.bind_some, decide_eq_false (hor.resolve_left (fun z => z h0))]
          exact j74
        · rw [if_pos (by rw [gC.2.2.1, show (0 : Int32) = nI 0 from rfl, nI_eq (by omega) (by omega)]; exact h0), j74]
      · unfold J_161_0_j62
        rw [m146g gw, Option.bind_some, if_neg (by decide)]
        by_cases h0 : tK b len p = 0
        · rw [if_neg (fun z => z (by rw [gK.2.2.1, h0]; rfl)), m154 hR.2.2.2.2.1 hG, Option.bind_some, decide_eq_false (hor.resolve_left (fun z => z h0)), if_neg (by decide), j86]
        · rw [if_pos (by rw [gK.2.2.1, show (0 : Int32) = nI 0 from rfl, nI_eq (by omega) (by omega)]; exact h0), j86]
    by_cases h0 : tK b len p = 0
    · by_cases hcn : pcn (bl n E 0 (n - 1)) n = n
      · refine ⟨-1, D, U, ?_, ?_, pf, .inl ⟨rfl, n, E, pl, sc, tg, wt, pr, hR, hcn⟩⟩
        · unfold J_72_0_j49
          rw [if_neg (by decide), if_neg (fun z => z (by rw [gC.2.2.1, h0]; rfl))]
          unfold F_11
          rw [hR.1.2, c10 hR.1 hG, Option.bind_some, decide_eq_true hcn]
          rfl
        · unfold J_161_0_j62
          rw [m146g gw, Option.bind_some, if_neg (by decide), if_neg (fun z => z (by rw [gK.2.2.1, h0]; rfl)), m154 hR.2.2.2.2.1 hG, Option.bind_some, decide_eq_true hcn, if_pos (by decide)]
          show some (U.wrong, U) = _
          rw [gw]
      · obtain ⟨u1, u2⟩ := bad (.inr hcn)
        exact ⟨_, D, y, u1, u2, ⟨pf.1, pf.2.1, pf.2.2.tr z7⟩, .inr ⟨_, k0.2, rfl⟩⟩
    · obtain ⟨u1, u2⟩ := bad (.inl h0)
      exact ⟨_, D, y, u1, u2, ⟨pf.1, pf.2.1, pf.2.2.tr z7⟩, .inr ⟨_, k0.2, rfl⟩⟩
  · refine ⟨nI e, D, U, ?_, ?_, pf, .inr ⟨e, e1, rfl⟩⟩
    · unfold J_72_0_j49
      rw [if_pos (by decide)]
      show some (D.start, D) = _
      rw [e2]
    · unfold J_161_0_j62
      rw [m146n e3 (by omega), Option.bind_some, if_pos rfl]
      show some (U.wrong, U) = _
      rw [e3]
end PARSE
