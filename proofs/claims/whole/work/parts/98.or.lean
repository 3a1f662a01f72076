/-! ===== THE CALLS ABOUT PILES AHEAD ===== -/
section OLR
variable {k : Nat} {W : Wd}
theorem m222 {M : Md} {n E : Nat} {pl : Nat → Nat} (rM : MR n E M.now) (rP : MP pl M.now) (hn : n ≤ 6) (hs : sm pl n < 2 ^ 31) : F_222 M = some (bI (decide (sm pl n ≤ 14))) := by
  unfold F_222
  rw [m179 rM rP hn, Option.bind_some, show (14 : Int32) = nI 14 from rfl]
  by_cases h : sm pl n ≤ 14
  · rw [if_neg (nI_nlt (b := sm pl n) (by omega) (by omega)), decide_eq_true h]
    rfl
  · rw [if_pos (nI_lt (by omega) (by omega)), decide_eq_false h]
    rfl
theorem c127t {n E : Nat} {pl : Nat → Nat} (qB : CB n E W.board) (qP : CP pl W.board) (hn : n ≤ 6) (hs : sm pl n ≤ 14) : F_127 W = some (.inl (), W) := by
  unfold F_127
  rw [c22 qB qP hn, Option.bind_some, show (14 : Int32) = nI 14 from rfl, if_pos (nI_le hs (by omega))]
theorem c127f {n E : Nat} {pl : Nat → Nat} (qB : CB n E W.board) (qP : CP pl W.board) (hn : n ≤ 6) (hs : ¬ sm pl n ≤ 14) (h31 : sm pl n < 2 ^ 31) : F_127 W = some (.inr 3, W.thr) := by
  unfold F_127
  rw [c22 qB qP hn, Option.bind_some, show (14 : Int32) = nI 14 from rfl, if_neg (nI_ge (by omega) (by omega))]
theorem op27 (h : Sim k W) (x : Int32) : Ans k (F_285 W x) (fun M => F_223 M x) := by
  obtain ⟨y, hy, y1, y2⟩ := md_thrown W.md 0
  obtain ⟨n, E, pl, sc, tg, wt, pr, ⟨qB, qP, qS, qD, rM, rP, rS, r13, hG, hC, hO, h9⟩, hol, hfc, hd⟩ := h.op y2
  have hn := hG.2.1
  have h1 := hG.1
  have hE := hG.E_lt
  have h31 : ∀ v, v < 6 → pl v < 2 ^ 31 := fun v hv => by have := h9 v hv; omega
  have hsm : sm pl n ≤ 6 * 999 := by
    have := sm_le (f := pl) (c := 999) (n := n) (fun q hq => h9 q (by omega))
    exact Nat.le_trans this (Nat.mul_le_mul_right _ hn)
  have e222 : F_222 y = some (bI (decide (sm pl n ≤ 14))) := m222 rM rP hn (by omega)
  have e172 : F_172 y x = some (bI (isv n x)) := m172 rM.1 (by omega) (by omega) x
  cases hv : isv n x with
  | true =>
    obtain ⟨v, hv', rfl⟩ := isv_of (by omega) hv
    rw [hv] at e172
    by_cases hs : sm pl n ≤ 14
    · rw [decide_eq_true hs] at e222
      obtain ⟨o', f1, f2, f3⟩ := c53 qB qP hG hs hol
      obtain ⟨M', m1, m2, m3⟩ := m221 rM rP hG hs
      have mm := m3.mo
      obtain ⟨j, j1, j2⟩ := m223l m2 hG hs hv'
      have h16 : ∀ v, v < n → pl v < 16 := fun v hv => sm16 hs hv
      have et : sm (qd (qc pl n)) n = sm pl n := sm_cong (qc_qd h16)
      have ef := f3.2.2.2.2.2 v hv'
      rw [et] at ef
      obtain ⟨L1, L2, L3⟩ := qa_ok hG hs
      have lf := LI_few hn hs L1
      have hmd : F_223 W.md (nI v) = J_223_0_j65 M' (nI j) := by
        unfold F_223
        rw [hy, Option.bind_some, e172, Option.bind_some, m135t, Option.bind_some]
        dsimp only
        rw [if_neg (show ¬ ¬ (0 : Int32) = 0 from fun z => z rfl), e222, Option.bind_some, m135t, Option.bind_some]
        dsimp only
        rw [if_pos rfl, m1, Option.bind_some, j1, Option.bind_some]
      have hcl : F_107 W (nI v) = if ¬ o'.fewestMoves v = (-1) then some (.inl (o'.fewestMoves v), W.w_ol o') else some (.inr 4, (W.w_ol o').thr) := by
        unfold F_107
        rw [c124t qB (by omega) hv', Option.bind_some]
        dsimp only
        rw [xq_l, c127t qB qP hn hs, Option.bind_some]
        dsimp only
        rw [xq_l, f1, Option.bind_some, ixn (by omega) (by decide), Option.bind_some]
        rfl
      rcases j2 with ⟨q1, q2⟩ | ⟨q1, m, q2, q3⟩
      · rw [q2] at ef
        have ef' : o'.fewestMoves v = -1 := ef
        refine ans_no (v := 3) (B := (W.w_ol o').thr) (u := 0) (o := M'.w_thrown 3) (by decide) ?_ ?_ rfl (h.exg (RG.ol f2 hfc) (by decide) (y2.tr mm.1) 3)
        · unfold F_285
          rw [hcl, ef', if_neg (fun z => z rfl)]
          rfl
        · show F_223 W.md (nI v) = _
          rw [hmd]
          unfold J_223_0_j65
          rw [m2.2.1, if_pos (nI_le (by omega) (by omega))]
          rfl
      · rw [q3] at ef
        have ef' : o'.fewestMoves v = nI m := ef
        have hm : m < 2 ^ 31 := by
          unfold fw at q3
          cases hq : (qa n E (qc pl n)).find? (fun c => decide (¬ qd c v = 0)) with
          | none => rw [hq] at q3; cases q3
          | some c =>
            rw [hq] at q3
            have : sm pl n - sm (qd c) n = m := Option.some.inj q3
            omega
        refine ans_ok (B := W.w_ol o') (u := nI m) (o := M') ?_ ?_ (mm.2.trans y1) (h.read (RG.ol f2 hfc) (by decide) (y2.tr mm.1))
        · unfold F_285
          rw [hcl, ef', if_pos (nI_m1 hm)]
          rfl
        · show F_223 W.md (nI v) = _
          rw [hmd]
          unfold J_223_0_j65
          rw [m2.2.1, if_neg (nI_ge q1 (by omega))]
          unfold J_223_0_j79
          rw [show F_135 M' 1 3 = some (0, M') from rfl, Option.bind_some]
          dsimp only
          rw [if_pos rfl, ixn (by omega) (by decide), Option.bind_some, q2]
          rfl
    · rw [decide_eq_false hs] at e222
      refine ans_no (v := 2) (B := W.thr) (u := 0) (o := y.w_thrown 2) (by decide) ?_ ?_ rfl (h.ex y2 2)
      · unfold F_285 F_107
        rw [c124t qB (by omega) hv', Option.bind_some]
        dsimp only
        rw [xq_l, c127f qB qP hn hs (by omega)]
        rfl
      · show F_223 W.md (nI v) = _
        unfold F_223
        rw [hy, Option.bind_some, e172, Option.bind_some, m135t, Option.bind_some]
        dsimp only
        rw [if_neg (show ¬ ¬ (0 : Int32) = 0 from fun z => z rfl), e222, Option.bind_some, m135f]
        rfl
  | false =>
    rw [hv] at e172
    refine ans_no (v := 1) (B := W.thr) (u := 0) (o := y.w_thrown 1) (by decide) ?_ ?_ rfl (h.ex y2 1)
    · unfold F_285 F_107
      rw [c124f qB (by omega) hv]
      rfl
    · show F_223 W.md x = _
      unfold F_223
      rw [hy, Option.bind_some, e172, Option.bind_some, m135f]
      rfl
theorem op28 (h : Sim k W) : ∃ v B o, F_108 W = some (v, B) ∧ F_224 B.md = some (v, o) ∧ Sim (k + 7) (B.w_md o) := by
  obtain ⟨y, hy, y1, y2⟩ := md_thrown W.md 0
  obtain ⟨n, E, pl, sc, tg, wt, pr, ⟨qB, qP, qS, qD, rM, rP, rS, r13, hG, hC, hO, h9⟩, hol, hfc, hd⟩ := h.op y2
  have hn := hG.2.1
  have h1 := hG.1
  have hE := hG.E_lt
  have h31 : ∀ v, v < 6 → pl v < 2 ^ 31 := fun v hv => by have := h9 v hv; omega
  have hsm : sm pl n ≤ 6 * 999 := by
    have := sm_le (f := pl) (c := 999) (n := n) (fun q hq => h9 q (by omega))
    exact Nat.le_trans this (Nat.mul_le_mul_right _ hn)
  have e222 : F_222 y = some (bI (decide (sm pl n ≤ 14))) := m222 rM rP hn (by omega)
  by_cases hs : sm pl n ≤ 14
  · rw [decide_eq_true hs] at e222
    obtain ⟨o', f1, f2, f3⟩ := c53 qB qP hG hs hol
    obtain ⟨M', m1, m2, m3⟩ := m221 rM rP hG hs
    have mm := m3.mo
    refine ⟨nI (qa n E (qc pl n)).length, W.w_ol o', M', ?_, ?_, h.read (RG.ol f2 hfc) (by decide) (y2.tr mm.1)⟩
    · unfold F_108
      rw [c22 qB qP hn, Option.bind_some, show (14 : Int32) = nI 14 from rfl, if_pos (nI_le hs (by omega)), f1, Option.bind_some]
      show some (o'.pileCount, W.w_ol o') = _
      rw [f3.2.2.2.1]
    · show F_224 W.md = _
      unfold F_224
      rw [hy, Option.bind_some, e222, Option.bind_some, if_pos (by decide), m1, Option.bind_some, m2.2.1]
  · rw [decide_eq_false hs] at e222
    refine ⟨-1, W, y, ?_, ?_, h.read (RG.rf hol hfc) (by decide) y2⟩
    · unfold F_108
      rw [c22 qB qP hn, Option.bind_some, show (14 : Int32) = nI 14 from rfl, if_neg (nI_ge (by omega) (by omega))]
    · unfold F_224
      rw [hy, Option.bind_some, e222, Option.bind_some, if_neg (by decide)]
theorem op43 (h : Sim k W) : Ans k (F_298 W) (fun M => F_252 M) := by
  obtain ⟨y, hy, y1, y2⟩ := md_thrown W.md 0
  obtain ⟨n, E, pl, sc, tg, wt, pr, ⟨qB, qP, qS, qD, rM, rP, rS, r13, hG, hC, hO, h9⟩, hol, hfc, hd⟩ := h.op y2
  have hn := hG.2.1
  have h1 := hG.1
  have hE := hG.E_lt
  have h31 : ∀ v, v < 6 → pl v < 2 ^ 31 := fun v hv => by have := h9 v hv; omega
  have hsm : sm pl n ≤ 6 * 999 := by
    have := sm_le (f := pl) (c := 999) (n := n) (fun q hq => h9 q (by omega))
    exact Nat.le_trans this (Nat.mul_le_mul_right _ hn)
  have e222 : F_222 y = some (bI (decide (sm pl n ≤ 14))) := m222 rM rP hn (by omega)
  by_cases hs : sm pl n ≤ 14
  · rw [decide_eq_true hs] at e222
    obtain ⟨o', f1, f2, f3⟩ := c53 qB qP hG hs hol
    obtain ⟨M', m1, m3⟩ := m226 rM rP hG hs
    have mm := m3.mo
    refine ans_ok (B := W.w_ol o') (u := nI (ff n (qa n E (qc pl n)))) (o := M') ?_ ?_ (mm.2.trans y1) (h.read (RG.ol f2 hfc) (by decide) (y2.tr mm.1))
    · have e : F_123 W = some (.inl (nI (ff n (qa n E (qc pl n)))), W.w_ol o') := by
        unfold F_123
        rw [c127t qB qP hn hs, Option.bind_some]
        dsimp only
        rw [xq_l, f1, Option.bind_some]
        show some (Sum.inl o'.fewestEmpty, W.w_ol o') = _
        rw [f3.2.2.2.2.1]
      unfold F_298
      rw [e]
      rfl
    · show F_252 W.md = _
      unfold F_252
      rw [hy, Option.bind_some, e222, Option.bind_some, m135t, Option.bind_some]
      dsimp only
      rw [if_pos rfl, m1]
      rfl
  · rw [decide_eq_false hs] at e222
    refine ans_no (v := 1) (B := W.thr) (u := 0) (o := y.w_thrown 1) (by decide) ?_ ?_ rfl (h.ex y2 1)
    · unfold F_298 F_123
      rw [c127f qB qP hn hs (by omega)]
      rfl
    · show F_252 W.md = _
      unfold F_252
      rw [hy, Option.bind_some, e222, Option.bind_some, m135f]
      rfl
theorem op42 (h : Sim k W) : AnB k (F_297 W) (fun M => F_251 M) := by
  obtain ⟨y, hy, y1, y2⟩ := md_thrown W.md 0
  obtain ⟨n, E, pl, sc, tg, wt, pr, ⟨qB, qP, qS, qD, rM, rP, rS, r13, hG, hC, hO, h9⟩, hol, hfc, hd⟩ := h.op y2
  have hn := hG.2.1
  have h1 := hG.1
  have hE := hG.E_lt
  have h31 : ∀ v, v < 6 → pl v < 2 ^ 31 := fun v hv => by have := h9 v hv; omega
  have hsm : sm pl n ≤ 6 * 999 := by
    have := sm_le (f := pl) (c := 999) (n := n) (fun q hq => h9 q (by omega))
    exact Nat.le_trans this (Nat.mul_le_mul_right _ hn)
  have e222 : F_222 y = some (bI (decide (sm pl n ≤ 14))) := m222 rM rP hn (by omega)
  by_cases hs : sm pl n ≤ 14
  · rw [decide_eq_true hs] at e222
    obtain ⟨o', f1, f2, f3⟩ := c53 qB qP hG hs hol
    obtain ⟨M', m1, m3⟩ := m226 rM rP hG hs
    have mm := m3.mo
    have fl := ff_le n (qa n E (qc pl n))
    refine anb_ok (bI_or _) (B := W.w_ol o') (u := bI (decide (ff n (qa n E (qc pl n)) = 0))) (o := M') ?_ ?_ (mm.2.trans y1) (h.read (RG.ol f2 hfc) (by decide) (y2.tr mm.1))
    · have e : F_122 W = some (.inl (bI (decide (ff n (qa n E (qc pl n)) = 0))), W.w_ol o') := by
        unfold F_122
        rw [c127t qB qP hn hs, Option.bind_some]
        dsimp only
        rw [xq_l, f1, Option.bind_some]
        show (if ¬ o'.fewestEmpty = 0 then J_122_0_j30 (W.w_ol o') 0 else J_122_0_j30 (W.w_ol o') 1) = _
        rw [f3.2.2.2.2.1]
        by_cases q : ff n (qa n E (qc pl n)) = 0
        · rw [if_neg (fun z => z (by rw [q]; rfl)), decide_eq_true q]
          rfl
        · rw [if_pos (nI_ne0 (by omega) (by omega)), decide_eq_false q]
          rfl
      unfold F_297
      rw [e]
      cases decide (ff n (qa n E (qc pl n)) = 0) <;> rfl
    · show F_251 W.md = _
      unfold F_251
      rw [hy, Option.bind_some, e222, Option.bind_some, m135t, Option.bind_some]
      dsimp only
      rw [if_neg (show ¬ ¬ (0 : Int32) = 0 from fun z => z rfl), m1, Option.bind_some]
      dsimp only
      by_cases q : ff n (qa n E (qc pl n)) = 0
      · rw [if_neg (fun z => z (by rw [q]; rfl)), decide_eq_true q]
        rfl
      · rw [if_pos (nI_ne0 (by omega) (by omega)), decide_eq_false q]
        rfl
  · rw [decide_eq_false hs] at e222
    refine anb_no (v := 1) (B := W.thr) (u := 0) (o := y.w_thrown 1) (by decide) ?_ ?_ rfl (h.ex y2 1)
    · unfold F_297 F_122
      rw [c127f qB qP hn hs (by omega)]
      rfl
    · show F_251 W.md = _
      unfold F_251
      rw [hy, Option.bind_some, e222, Option.bind_some, m135f]
      rfl
end OLR
