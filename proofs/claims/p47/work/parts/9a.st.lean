/-! ===== A LIST READ: statements ===== -/
theorem e23 : txl 23 = [118, 101, 114, 116, 105, 99, 101, 115, 32] := by decide +kernel
theorem e24 : txl 24 = [59, 101, 100, 103, 101, 32] := by decide +kernel
theorem e25 : txl 25 = [32, 59, 32, 112, 105, 108, 101, 32] := by decide +kernel
theorem e26 : txl 26 = [59, 115, 116, 114, 97, 116, 101, 103, 121, 32] := by decide +kernel
def wm (wl : List Nat) (k : Nat) : Bool := decide (wl.length = (am_tx k).length) && al (fun i => decide (nI (wl.getD i 0) = (am_tx k).getD i 0)) (am_tx k).length
theorem wm_ok : wm [118, 101, 114, 116, 105, 99, 101, 115] 0 = true ∧ wm [101, 100, 103, 101] 1 = true ∧ wm [112, 105, 108, 101] 1 = false ∧ wm [112, 105, 108, 101] 2 = true ∧ wm [115, 116, 114, 97, 116, 101, 103, 121] 1 = false ∧ wm [115, 116, 114, 97, 116, 101, 103, 121] 2 = false ∧ wm [115, 116, 114, 97, 116, 101, 103, 121] 3 = true := by decide +kernel
theorem let_ok : (∀ x, x ∈ [118, 101, 114, 116, 105, 99, 101, 115] → 97 ≤ x ∧ x ≤ 122) ∧ (∀ x, x ∈ [101, 100, 103, 101] → 97 ≤ x ∧ x ≤ 122) ∧ (∀ x, x ∈ [112, 105, 108, 101] → 97 ≤ x ∧ x ≤ 122) ∧ (∀ x, x ∈ [115, 116, 114, 97, 116, 101, 103, 121] → 97 ≤ x ∧ x ≤ 122) := by decide +kernel
section ST9
variable {l r : List Nat} {p : Nat} {Q : Ps}
/-- a semicolon and a statement that fits -/
theorem st_go {sp s : List Nat} {p' : Nat} {Q' : Ps} (h : Lx l p (sp ++ (59 :: s))) (hs : bl32 sp) (hq : ∀ q, q = p + sp.length + 1 → Lx l q s → sStmt (bf l) l.length q Q = (true, p', Q')) (f : Nat) : sAll (bf l) l.length (f + 1) p Q = sAll (bf l) l.length f p' Q' := by
  obtain ⟨k1, k2, k3, k4⟩ := tok_c h hs
  have e := hq _ rfl k4
  rw [sAll, if_pos ⟨k1, k2⟩, k3, e, if_pos rfl]
/-- an edge -/
theorem st_e {v o : Nat} (h : Lx l p (xEd v o ++ r)) (hr : nx r) (hn : Q.n ≤ 6) (hv : v < Q.n) (ho : o < Q.n) (hne : ¬ o = v) (ha : ad Q.E v o = false) : ∃ p', (∀ f, sAll (bf l) l.length (f + 1) p Q = sAll (bf l) l.length f p' (Q.wE (ae Q.E v o))) ∧ Lx l p' r ∧ p < p' := by
  have e1 : xEd v o ++ r = [] ++ (59 :: ([] ++ ([101, 100, 103, 101] ++ ([32] ++ (dgt v ++ ([32] ++ (dgt o ++ r))))))) := by
    unfold xEd
    rw [e24, List.append_assoc, List.append_assoc, List.append_assoc]
    rfl
  rw [e1] at h
  obtain ⟨-, -, -, k4⟩ := tok_c h bl_0
  obtain ⟨w1, w2, w3⟩ := tok_w k4 bl_0 let_ok.2.1 (by decide) nh_32.2
  obtain ⟨n1, n2, n3, n4, n5⟩ := tok_n w2 bl_1 (by omega) nh_32.1
  obtain ⟨m1, m2, m3, m4, m5⟩ := tok_n n3 bl_1 (by omega) (nx_nh hr).1
  refine ⟨_, st_go h bl_0 ?_, m3, ?_⟩
  · rintro q rfl -
    have hlen := n3.len
    have hd : 0 < (dgt o).length := by obtain ⟨x, y, e, -⟩ := dgt_cons (k := o) (by omega); rw [e, List.length_cons]; omega
    rw [List.length_append, List.length_append] at hlen
    obtain ⟨len', hl'⟩ : ∃ m, l.length = m + 1 := ⟨l.length - 1, by omega⟩
    unfold sStmt
    rw [if_pos (show wd 1 (bf l) l.length _ = true from (w3 1).trans wm_ok.2.1)]
    unfold sPath
    rw [w1, n5, if_pos (decide_eq_true ⟨Nat.zero_le _, by omega⟩), n4, n2, sEdges, if_pos (Bool.true_or _), m5, m4, m2, decide_eq_true (show 0 ≤ o ∧ o ≤ Q.n - 1 by omega), decide_eq_false hne, ha, if_pos (by rfl)]
    have hk := nx_k hr m3
    rw [hl'] at hk ⊢
    rw [sEdges, decide_eq_false hk, if_neg (by decide)]
  · show p < _
    have : ([] : List Nat).length = 0 := rfl
    omega
/-- a pile -/
theorem st_p {v k : Nat} (h : Lx l p (xPi v k ++ r)) (hr : nx r) (hn : Q.n ≤ 6) (hv : v < Q.n) (hk : k < 100) : ∃ p', (∀ f, sAll (bf l) l.length (f + 1) p Q = sAll (bf l) l.length f p' (Q.wp (upl Q.pl v k))) ∧ Lx l p' r ∧ p < p' := by
  have e1 : xPi v k ++ r = [32] ++ (59 :: ([32] ++ ([112, 105, 108, 101] ++ ([32] ++ (dgt v ++ ([32] ++ (dgt k ++ r))))))) := by
    unfold xPi
    rw [e25, List.append_assoc, List.append_assoc, List.append_assoc]
    rfl
  rw [e1] at h
  obtain ⟨-, -, -, k4⟩ := tok_c h bl_1
  obtain ⟨w1, w2, w3⟩ := tok_w k4 bl_1 let_ok.2.2.1 (by decide) nh_32.2
  obtain ⟨n1, n2, n3, n4, n5⟩ := tok_n w2 bl_1 (by omega) nh_32.1
  obtain ⟨m1, m2, m3, m4, m5⟩ := tok_n n3 bl_1 (by omega) (nx_nh hr).1
  refine ⟨_, st_go h bl_1 ?_, m3, ?_⟩
  · rintro q rfl -
    unfold sStmt
    rw [if_neg (show ¬ wd 1 (bf l) l.length _ = true by rw [show wd 1 (bf l) l.length _ = false from (w3 1).trans wm_ok.2.2.1]; decide), if_pos (show wd 2 (bf l) l.length _ = true from (w3 2).trans wm_ok.2.2.2.1)]
    unfold sPile
    rw [w1, n5, if_pos (decide_eq_true ⟨Nat.zero_le _, by omega⟩), n4, n2, m5, if_pos (decide_eq_true ⟨Nat.zero_le _, by omega⟩), m4, m2]
  · show p < _
    have : ([32] : List Nat).length = 1 := rfl
    omega
/-- a vertex of a strategy -/
theorem st_w {v q k : Nat} (h : Lx l p (xWt v q k ++ r)) (hr : nh 48 57 r) (hn : Q.n ≤ 6) (hv : v < Q.n) (hq : q < Q.n) (hk : k ≤ 64) (ht : ¬ v = Q.tg (Q.sc - 1)) : ∃ p', (∀ f, sWs (bf l) l.length (f + 1) p Q = sWs (bf l) l.length f p' (Q.wS Q.sc Q.tg (uwt (Q.sc - 1) v k Q.wt) (uwt (Q.sc - 1) v (some q) Q.pr))) ∧ Lx l p' r ∧ p < p' := by
  have e1 : xWt v q k ++ r = [32] ++ (dgt v ++ ([32] ++ (dgt q ++ ([32] ++ (dgt k ++ r))))) := by
    unfold xWt
    rw [List.append_assoc, List.append_assoc, List.append_assoc, List.append_assoc, List.append_assoc]
  rw [e1] at h
  obtain ⟨n1, n2, n3, n4, n5⟩ := tok_n h bl_1 (by omega) nh_32.1
  obtain ⟨m1, m2, m3, m4, m5⟩ := tok_n n3 bl_1 (by omega) nh_32.1
  obtain ⟨o1, o2, o3, o4, o5⟩ := tok_n m3 bl_1 (by omega) hr
  have e : sW1 (bf l) l.length p Q = (true, p + [32].length + (dgt v).length + [32].length + (dgt q).length + [32].length + (dgt k).length, Q.wS Q.sc Q.tg (uwt (Q.sc - 1) v k Q.wt) (uwt (Q.sc - 1) v (some q) Q.pr)) := by
    unfold sW1
    rw [n5, n4, n2, decide_eq_true (show 0 ≤ v ∧ v ≤ Q.n - 1 by omega), decide_eq_false ht, if_pos (by rfl), m5, m4, m2, if_pos (decide_eq_true (show 0 ≤ q ∧ q ≤ Q.n - 1 by omega)), o5, o4, o2, if_pos (decide_eq_true (show 0 ≤ k ∧ k ≤ 64 by omega))]
  refine ⟨_, fun f => ?_, o3, ?_⟩
  · rw [sWs, if_pos n1, e, if_pos rfl]
  · have : ([32] : List Nat).length = 1 := rfl
    omega
theorem st_x {f : Nat} (h : Lx l p r) (hr : nx r) : sWs (bf l) l.length (f + 1) p Q = (true, p, Q) := by
  rw [sWs, if_neg (nx_k hr h)]
end ST9
/-- what is read of a strategy's row up to v -/
def rW (Q : Ps) (s v : Nat) (wt : Nat → Nat) (pr : Nat → Option Nat) (R : Ps) : Prop := R.n = Q.n ∧ R.E = Q.E ∧ R.pl = Q.pl ∧ R.mc = Q.mc ∧ R.sc = Q.sc ∧ R.tg = Q.tg ∧ (∀ i x, ¬ i = s → R.wt i x = Q.wt i x ∧ R.pr i x = Q.pr i x) ∧ ∀ x, R.pr s x = (if x < v then pr x else none) ∧ R.wt s x = (if x < v ∧ ¬ pr x = none then wt x else 0)
section ST8
variable {l r : List Nat} {p : Nat} {Q : Ps}
theorem nh_Ws {wt : Nat → Nat} {pr : Nat → Option Nat} (hr : nx r) : ∀ v, nh 48 57 (xWs wt pr v ++ r) ∧ ∀ q k x, nh 48 57 ((xW1 x k q) ++ r)
  | 0 => ⟨(nx_nh hr).1, fun q k x => by
    cases q with
    | none => exact (nx_nh hr).1
    | some q => exact nh_32.1⟩
  | v + 1 => by
    refine ⟨?_, (nh_Ws (wt := wt) (pr := pr) hr v).2⟩
    rw [xWs]
    have h := nh_Ws (wt := wt) (pr := pr) hr v
    cases e : xWs wt pr v with
    | nil => exact h.2 _ _ _
    | cons x y =>
      have := h.1
      rw [e] at this
      exact nh_cons (this x _ rfl)
/-- a strategy's row -/
theorem st_ws {wt : Nat → Nat} {pr : Nat → Option Nat} {t s : Nat} (hS : SR Q.n t wt pr) (hn : Q.n ≤ 6) (hs : s = Q.sc - 1) (htg : Q.tg s = t) (h0 : rW Q s 0 wt pr Q) : ∀ (v : Nat) (r : List Nat), v ≤ Q.n → nh 48 57 r → Lx l p (xWs wt pr v ++ r) → ∃ c p' R, (∀ f, sWs (bf l) l.length (f + c) p Q = sWs (bf l) l.length f p' R) ∧ Lx l p' r ∧ p + c ≤ p' ∧ rW Q s v wt pr R
  | 0, r, _, _, h => ⟨0, p, Q, fun _ => rfl, h, Nat.le_refl _, h0⟩
  | v + 1, r, hv, hr, h => by
    rw [xWs, List.append_assoc] at h
    have hr2 : nh 48 57 (xW1 v (wt v) (pr v) ++ r) := by
      cases pr v with
      | none => exact hr
      | some q => exact nh_32.1
    obtain ⟨c, p', R, e1, h1, hc, hR⟩ := st_ws hS hn hs htg h0 v _ (by omega) hr2 h
    obtain ⟨r1, r2, r3, r4, r5, r6, r7, r8⟩ := id hR
    cases hp : pr v with
    | none =>
      rw [hp] at h1
      refine ⟨c, p', R, e1, h1, hc, r1, r2, r3, r4, r5, r6, r7, fun x => ?_⟩
      obtain ⟨q1, q2⟩ := r8 x
      rw [q1, q2]
      by_cases q : x = v
      · subst q
        rw [if_neg (Nat.lt_irrefl x), if_pos (Nat.lt_succ_self x), hp, if_neg (fun z => Nat.lt_irrefl x z.1), if_neg (fun z => z.2 rfl)]
        exact ⟨rfl, rfl⟩
      · by_cases q2 : x < v
        · rw [if_pos q2, if_pos (by omega)]
          refine ⟨rfl, ?_⟩
          by_cases q3 : pr x = none
          · rw [if_neg (fun z => z.2 q3), if_neg (fun z => z.2 q3)]
          · rw [if_pos ⟨q2, q3⟩, if_pos ⟨by omega, q3⟩]
        · rw [if_neg q2, if_neg (by omega), if_neg (fun z => q2 z.1), if_neg (fun z => by have := z.1; omega)]
          exact ⟨rfl, rfl⟩
    | some q =>
      rw [hp] at h1
      obtain ⟨b1, b2, b3⟩ := hS.2 v
      have hq := b2 q hp
      have hvt : ¬ v = t := fun z => by rw [z, hS.1] at hp; cases hp
      obtain ⟨p2, e2, h2, hc2⟩ := st_w (Q := R) h1 hr (by omega) (by omega) (by omega) b1 (by rw [r5, r6, ← hs, htg]; exact hvt)
      rw [r5] at e2
      refine ⟨c + 1, p2, R.wS Q.sc R.tg (uwt (Q.sc - 1) v (wt v) R.wt) (uwt (Q.sc - 1) v (some q) R.pr), fun f => ?_, h2, by omega, r1, r2, r3, r4, rfl, r6, fun i x hi => ?_, fun x => ?_⟩
      · rw [show f + (c + 1) = (f + 1) + c by omega, e1, e2]
      · show uwt (Q.sc - 1) v (wt v) R.wt i x = _ ∧ uwt (Q.sc - 1) v (some q) R.pr i x = _
        unfold uwt
        rw [if_neg (fun z => hi (by rw [hs]; exact z.1)), if_neg (fun z => hi (by rw [hs]; exact z.1))]
        exact r7 i x hi
      · obtain ⟨q1, q2⟩ := r8 x
        show uwt (Q.sc - 1) v (some q) R.pr s x = _ ∧ uwt (Q.sc - 1) v (wt v) R.wt s x = _
        unfold uwt
        by_cases w : x = v
        · subst w
          refine ⟨?_, ?_⟩
          · rw [if_pos ⟨hs, rfl⟩, if_pos (Nat.lt_succ_self x), hp]
          · rw [if_pos ⟨hs, rfl⟩, if_pos ⟨Nat.lt_succ_self x, fun z => by rw [hp] at z; cases z⟩]
        · refine ⟨?_, ?_⟩
          · rw [if_neg (fun z => w z.2), q1]
            by_cases w2 : x < v
            · rw [if_pos w2, if_pos (by omega)]
            · rw [if_neg w2, if_neg (by omega)]
          · rw [if_neg (fun z => w z.2), q2]
            by_cases w2 : x < v ∧ ¬ pr x = none
            · rw [if_pos w2, if_pos ⟨by omega, w2.2⟩]
            · rw [if_neg w2, if_neg (fun z => w2 ⟨by omega, z.2⟩)]
/-- a strategy -/
theorem st_s {t : Nat} {wt : Nat → Nat} {pr : Nat → Option Nat} (h : Lx l p (txl 26 ++ (dgt t ++ xWs wt pr Q.n) ++ r)) (hr : nx r) (hn : Q.n ≤ 6) (ht : t < Q.n) (hs : Q.sc < 6) (hS : SR Q.n t wt pr) : ∃ p' R, (∀ f, sAll (bf l) l.length (f + 1) p Q = sAll (bf l) l.length f p' R) ∧ Lx l p' r ∧ p < p' ∧ rW (Q.wS (Q.sc + 1) (otg Q.sc Q.tg t) (owt Q.sc Q.wt) (opr Q.sc Q.pr)) Q.sc Q.n wt pr R := by
  have e1 : txl 26 ++ (dgt t ++ xWs wt pr Q.n) ++ r = [] ++ (59 :: ([] ++ ([115, 116, 114, 97, 116, 101, 103, 121] ++ ([32] ++ (dgt t ++ (xWs wt pr Q.n ++ r)))))) := by
    rw [e26, List.append_assoc, List.append_assoc]
    rfl
  rw [e1] at h
  obtain ⟨-, -, -, k4⟩ := tok_c h bl_0
  obtain ⟨w1, w2, w3⟩ := tok_w k4 bl_0 let_ok.2.2.2 (by decide) nh_32.2
  obtain ⟨n1, n2, n3, n4, n5⟩ := tok_n w2 bl_1 (by omega) (nh_Ws (wt := wt) (pr := pr) hr Q.n).1
  obtain ⟨Q1, hQ1⟩ : ∃ Q1, Q1 = Q.wS (Q.sc + 1) (otg Q.sc Q.tg t) (owt Q.sc Q.wt) (opr Q.sc Q.pr) := ⟨_, rfl⟩
  have hrW : rW Q1 Q.sc 0 wt pr Q1 := by
    subst hQ1
    refine ⟨rfl, rfl, rfl, rfl, rfl, rfl, fun i x hi => ⟨rfl, rfl⟩, fun x => ?_⟩
    rw [if_neg (Nat.not_lt_zero _), if_neg (fun z => Nat.not_lt_zero _ z.1)]
    exact ⟨if_pos rfl, if_pos rfl⟩
  obtain ⟨c, p', R, e2, h2, hc, hR⟩ := st_ws (Q := Q1) (l := l) (s := Q.sc) (t := t) (by rw [hQ1]; exact hS) (by rw [hQ1]; exact hn) (by rw [hQ1]; show Q.sc = Q.sc + 1 - 1; omega) (by rw [hQ1]; exact if_pos rfl) hrW Q.n r (by rw [hQ1]; exact Nat.le_refl _) (nx_nh hr).1 n3
  have hl := h2.len
  refine ⟨p', R, st_go h bl_0 ?_, h2, ?_, by rw [← hQ1]; exact hR⟩
  · rintro q rfl -
    unfold sStmt
    rw [if_neg (show ¬ wd 1 (bf l) l.length _ = true by rw [show wd 1 (bf l) l.length _ = false from (w3 1).trans wm_ok.2.2.2.2.1]; decide), if_neg (show ¬ wd 2 (bf l) l.length _ = true by rw [show wd 2 (bf l) l.length _ = false from (w3 2).trans wm_ok.2.2.2.2.2.1]; decide), if_pos (show wd 3 (bf l) l.length _ = true from (w3 3).trans wm_ok.2.2.2.2.2.2)]
    unfold sStr
    rw [if_neg (by omega), w1, n5, if_pos (decide_eq_true ⟨Nat.zero_le _, by omega⟩), n4, n2, ← hQ1]
    obtain ⟨f, hf⟩ : ∃ f, l.length + 1 = (f + 1) + c := ⟨l.length - c, by omega⟩
    rw [hf, e2, st_x h2 hr]
  · have : ([] : List Nat).length = 0 := rfl
    have : ([32] : List Nat).length = 1 := rfl
    omega
end ST8
