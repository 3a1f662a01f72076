/-! ===== THE STRATEGIES' READING CALLS ===== -/
section RS
variable {k : Nat} {W : Wd}
theorem m174 {M : Md} {n sc : Nat} {tg : Nat → Nat} {wt : Nat → Nat → Nat} {pr : Nat → Nat → Option Nat} (rS : MS n sc tg wt pr M.now) (h6 : sc ≤ 6) (x : Int32) : F_174 M x = some (bI (isv sc x)) := by
  unfold F_174
  rw [show ix 14 93 = some 14 from rfl, Option.bind_some, rS.1]
  have e : decide (0 ≤ x ∧ x ≤ nI sc - 1) = isv sc x := by
    unfold isv
    apply decide_eq_decide.2
    have e1 : (nI sc - 1).toInt = (sc : Int) - 1 := by rw [z1]; exact pk_sub_toInt (by omega) (by decide)
    rw [Int32.le_iff_toInt_le (x := x), Int32.lt_iff_toInt_lt, e1, nI_toInt (by omega)]
    exact ⟨fun ⟨h0, h1⟩ => ⟨h0, by omega⟩, fun ⟨h0, h1⟩ => ⟨h0, by omega⟩⟩
  rw [show F_134 x.toInt64 0 ((nI sc - 1).toInt64) = some (bI (decide (0 ≤ x ∧ x ≤ nI sc - 1))) from m134 x 0 (nI sc - 1), e, Option.bind_some]
  exact bI_ok
theorem c126 {n sc : Nat} {tg : Nat → Nat} {wt : Nat → Nat → Nat} {pr : Nat → Nat → Option Nat} (hS : CS n sc tg wt pr W.board) (hn : sc < 2 ^ 31) (x : Int32) : (isv sc x = true ∧ F_126 W x = some (.inl (), W)) ∨ (isv sc x = false ∧ F_126 W x = some (.inr 2, W.thr)) := by
  unfold F_126 J_126_0_j15
  rw [hS.1]
  unfold isv
  by_cases h0 : x < 0
  · right
    refine ⟨decide_eq_false fun ⟨h1, _⟩ => absurd h0 (by rw [Int32.not_lt]; exact h1), ?_⟩
    rw [if_pos h0]
  · by_cases h1 : x < nI sc
    · left
      refine ⟨decide_eq_true ⟨by rw [← Int32.not_lt]; exact h0, h1⟩, ?_⟩
      rw [if_neg h0, if_pos h1]
    · right
      refine ⟨decide_eq_false fun ⟨_, h2⟩ => h1 h2, ?_⟩
      rw [if_neg h0, if_neg h1]
theorem c126t {n sc v : Nat} {tg : Nat → Nat} {wt : Nat → Nat → Nat} {pr : Nat → Nat → Option Nat} (hS : CS n sc tg wt pr W.board) (hn : sc < 2 ^ 31) (hv : v < sc) : F_126 W (nI v) = some (.inl (), W) := by
  rcases c126 hS hn (nI v) with ⟨h, e⟩ | ⟨h, e⟩
  · exact e
  · rw [isv_t hv hn] at h
    cases h
theorem c126f {n sc : Nat} {tg : Nat → Nat} {wt : Nat → Nat → Nat} {pr : Nat → Nat → Option Nat} (hS : CS n sc tg wt pr W.board) (hn : sc < 2 ^ 31) {x : Int32} (hv : isv sc x = false) : F_126 W x = some (.inr 2, W.thr) := by
  rcases c126 hS hn x with ⟨h, e⟩ | ⟨h, e⟩
  · rw [hv] at h
    cases h
  · exact e
theorem op36 (h : Sim k W) (x : Int32) : Ans k (F_292 W x) (fun M => F_242 M x) := by
  obtain ⟨y, hy, y1, y2⟩ := md_thrown W.md 0
  obtain ⟨n, E, pl, sc, tg, wt, pr, ⟨qB, qP, qS, qD, rM, rP, rS, r13, hG, hC, hO, h9⟩, hol, hfc, hd⟩ := h.op y2
  have hn := hG.2.1
  have h1 := hG.1
  have hE := hG.E_lt
  have h31 : ∀ v, v < 6 → pl v < 2 ^ 31 := fun v hv => by have := h9 v hv; omega
  have e174 : F_174 y x = some (bI (isv sc x)) := m174 rS hO.1 x
  have s6 := hO.1
  cases hv : isv sc x with
  | true =>
    obtain ⟨v, hv', rfl⟩ := isv_of (by omega) hv
    rw [hv] at e174
    refine ans_ok (B := W) (u := pI (flt n E tg wt pr v)) (o := y) ?_ ?_ y1 (h.read (RG.rf hol hfc) (by decide) y2)
    · have e : F_116 W (nI v) = some (.inl (pI (flt n E tg wt pr v)), W) := by
        unfold F_116
        rw [c126t qS (by omega) hv', Option.bind_some]
        dsimp only
        rw [xq_l]
        rw [c31 qB qS hO hG hv']
        rfl
      unfold F_292
      rw [e]
      rfl
    · show F_242 W.md (nI v) = _
      unfold F_242
      rw [hy, Option.bind_some, e174, Option.bind_some, m135t, Option.bind_some]
      dsimp only
      rw [if_pos rfl]
      rw [m241 rM rS hO hG hv']
      rfl
  | false =>
    rw [hv] at e174
    refine ans_no (v := 1) (B := W.thr) (u := 0) (o := y.w_thrown 1) (by decide) ?_ ?_ rfl (h.ex y2 1)
    · unfold F_292 F_116
      rw [c126f qS (by omega) hv]
      rfl
    · show F_242 W.md x = _
      unfold F_242
      rw [hy, Option.bind_some, e174, Option.bind_some, m135f]
      rfl
theorem op37 (h : Sim k W) (x : Int32) (c : Bool) : Ans k (F_293 W x (bI c)) (fun M => F_244 M x (bI c)) := by
  obtain ⟨y, hy, y1, y2⟩ := md_thrown W.md 0
  obtain ⟨n, E, pl, sc, tg, wt, pr, ⟨qB, qP, qS, qD, rM, rP, rS, r13, hG, hC, hO, h9⟩, hol, hfc, hd⟩ := h.op y2
  have hn := hG.2.1
  have h1 := hG.1
  have hE := hG.E_lt
  have h31 : ∀ v, v < 6 → pl v < 2 ^ 31 := fun v hv => by have := h9 v hv; omega
  have e174 : F_174 y x = some (bI (isv sc x)) := m174 rS hO.1 x
  have s6 := hO.1
  cases hv : isv sc x with
  | true =>
    obtain ⟨v, hv', rfl⟩ := isv_of (by omega) hv
    rw [hv] at e174
    refine ans_ok (B := W) (u := nI (if c then sm (fun q => wt v q * pl q) n else sm (wt v) n)) (o := y) ?_ ?_ y1 (h.read (RG.rf hol hfc) (by decide) y2)
    · have e : F_117 W (nI v) (bI c) = some (.inl (nI (if c then sm (fun q => wt v q * pl q) n else sm (wt v) n)), W) := by
        unfold F_117
        rw [c126t qS (by omega) hv', Option.bind_some]
        dsimp only
        rw [xq_l]
        cases c with
        | false =>
          rw [if_pos (by decide), c32 qB qS hO hn hv']
          rfl
        | true =>
          rw [if_neg (by decide), c33 qB qP qS hO hn hv']
          rfl
      unfold F_293
      rw [e]
      rfl
    · show F_244 W.md (nI v) (bI c) = _
      unfold F_244
      rw [hy, Option.bind_some, e174, Option.bind_some, m135t, Option.bind_some]
      dsimp only
      rw [if_pos rfl]
      obtain ⟨a, b⟩ := m243 rM rP rS hO hn hv'
      cases c with
      | false =>
        rw [show bI false = 0 from rfl, a]
        rfl
      | true =>
        rw [show bI true = 1 from rfl, b]
        rfl
  | false =>
    rw [hv] at e174
    refine ans_no (v := 1) (B := W.thr) (u := 0) (o := y.w_thrown 1) (by decide) ?_ ?_ rfl (h.ex y2 1)
    · unfold F_293 F_117
      rw [c126f qS (by omega) hv]
      rfl
    · show F_244 W.md x (bI c) = _
      unfold F_244
      rw [hy, Option.bind_some, e174, Option.bind_some, m135f]
      rfl
theorem op38 (h : Sim k W) (x : Int32) : AnB k (F_294 W x) (fun M => F_245 M x) := by
  obtain ⟨y, hy, y1, y2⟩ := md_thrown W.md 0
  obtain ⟨n, E, pl, sc, tg, wt, pr, ⟨qB, qP, qS, qD, rM, rP, rS, r13, hG, hC, hO, h9⟩, hol, hfc, hd⟩ := h.op y2
  have hn := hG.2.1
  have h1 := hG.1
  have hE := hG.E_lt
  have h31 : ∀ v, v < 6 → pl v < 2 ^ 31 := fun v hv => by have := h9 v hv; omega
  have e174 : F_174 y x = some (bI (isv sc x)) := m174 rS hO.1 x
  have s6 := hO.1
  cases hv : isv sc x with
  | true =>
    obtain ⟨v, hv', rfl⟩ := isv_of (by omega) hv
    rw [hv] at e174
    obtain ⟨a, b⟩ := m243 rM rP rS hO hn hv'
    have w1 : sm (wt v) n ≤ 384 := by
      have := sm_le (f := wt v) (c := 64) (n := n) (fun q hq => ((hO.2 v hv').2 q hq).1)
      omega
    have w2 : sm (fun q => wt v q * pl q) n ≤ 6 * 63936 := by
      have := sm_le (f := fun q => wt v q * pl q) (c := 63936) (n := n) (fun q hq => by
        have e1 := ((hO.2 v hv').2 q hq).1
        have e2 := h9 q (by omega)
        exact Nat.mul_le_mul e1 e2)
      exact Nat.le_trans this (Nat.mul_le_mul_right _ hn)
    refine anb_ok (bI_or _) (B := W) (u := bI ((flt n E tg wt pr v).isNone && decide (sm (wt v) n < sm (fun q => wt v q * pl q) n))) (o := y) ?_ ?_ y1 (h.read (RG.rf hol hfc) (by decide) y2)
    · have e : F_118 W (nI v) = some (.inl (bI ((flt n E tg wt pr v).isNone && decide (sm (wt v) n < sm (fun q => wt v q * pl q) n))), W) := by
        unfold F_118
        rw [c126t qS (by omega) hv', Option.bind_some]
        dsimp only
        rw [xq_l]
        rw [c31 qB qS hO hG hv', Option.bind_some]
        cases hi : (flt n E tg wt pr v).isNone with
        | false =>
          rw [if_pos (fun z => by rw [flt_m1 hn, hi] at z; cases z)]
          rfl
        | true =>
          rw [if_neg (fun z => z ((flt_m1 hn).2 hi)), c33 qB qP qS hO hn hv', Option.bind_some, c32 qB qS hO hn hv', Option.bind_some, Bool.true_and]
          by_cases hq : sm (wt v) n < sm (fun q => wt v q * pl q) n
          · rw [if_neg (nI_ge hq (by omega)), decide_eq_true hq]
            rfl
          · rw [if_pos (nI_le (by omega) (by omega)), decide_eq_false hq]
            rfl
      unfold F_294
      rw [e]
      cases (flt n E tg wt pr v).isNone && decide (sm (wt v) n < sm (fun q => wt v q * pl q) n) <;> rfl
    · show F_245 W.md (nI v) = _
      unfold F_245
      rw [hy, Option.bind_some, e174, Option.bind_some, m135t, Option.bind_some]
      dsimp only
      rw [if_pos rfl]
      rw [m241 rM rS hO hG hv', Option.bind_some]
      cases hi : (flt n E tg wt pr v).isNone with
      | false =>
        rw [if_pos (fun z => by rw [flt_m1 hn, hi] at z; cases z)]
        rfl
      | true =>
        rw [if_neg (fun z => z ((flt_m1 hn).2 hi)), b, Option.bind_some, a, Option.bind_some, Bool.true_and]
        by_cases hq : sm (wt v) n < sm (fun q => wt v q * pl q) n
        · rw [if_neg (nI_ge hq (by omega)), decide_eq_true hq]
          rfl
        · rw [if_pos (nI_le (by omega) (by omega)), decide_eq_false hq]
          rfl
  | false =>
    rw [hv] at e174
    refine anb_no (v := 1) (B := W.thr) (u := 0) (o := y.w_thrown 1) (by decide) ?_ ?_ rfl (h.ex y2 1)
    · unfold F_294 F_118
      rw [c126f qS (by omega) hv]
      rfl
    · show F_245 W.md x = _
      unfold F_245
      rw [hy, Option.bind_some, e174, Option.bind_some, m135f]
      rfl
theorem op39 (h : Sim k W) (x : Int32) : Ans k (F_295 W x) (fun M => F_247 M x) := by
  obtain ⟨y, hy, y1, y2⟩ := md_thrown W.md 0
  obtain ⟨n, E, pl, sc, tg, wt, pr, ⟨qB, qP, qS, qD, rM, rP, rS, r13, hG, hC, hO, h9⟩, hol, hfc, hd⟩ := h.op y2
  have hn := hG.2.1
  have h1 := hG.1
  have hE := hG.E_lt
  have h31 : ∀ v, v < 6 → pl v < 2 ^ 31 := fun v hv => by have := h9 v hv; omega
  have e172 : F_172 y x = some (bI (isv n x)) := m172 rM.1 (by omega) (by omega) x
  cases hv : isv n x with
  | true =>
    obtain ⟨t, ht, rfl⟩ := isv_of (by omega) hv
    rw [hv] at e172
    obtain ⟨b, hb, hbc, hbm⟩ : ∃ b, b ≤ 999 ∧ (if ¬ W.board.vertices = 1 then J_119_0_j32 W (nI t) (nI (vms n E tg wt pr t sc)) 384 else J_119_0_j32 W (nI t) (nI (vms n E tg wt pr t sc)) 1) = J_119_0_j32 W (nI t) (nI (vms n E tg wt pr t sc)) (nI b) ∧ ((if ¬ nI n = 1 then J_247_0_j37 y (nI t) 999 else J_247_0_j37 y (nI t) 1) = J_247_0_j37 y (nI t) (nI 999) ∧ mnx (vsm n E sc tg wt pr t) t b n = mnx (vsm n E sc tg wt pr t) t 999 n ∨ (if ¬ nI n = 1 then J_247_0_j37 y (nI t) 999 else J_247_0_j37 y (nI t) 1) = J_247_0_j37 y (nI t) (nI b)) := by
      by_cases h1n : n = 1
      · refine ⟨1, by decide, ?_, .inr ?_⟩
        · rw [qB.1, if_neg (fun z => z (by rw [h1n]; rfl))]; rfl
        · rw [if_neg (fun z => z (by rw [h1n]; rfl))]; rfl
      · have hne : ¬ nI n = 1 := by rw [z1, nI_eq (by omega) (by decide)]; exact h1n
        refine ⟨384, by decide, ?_, .inl ⟨?_, mnx_same hO h1n h1 ht⟩⟩
        · rw [qB.1, if_pos hne]; rfl
        · rw [if_pos hne]; rfl
    have k1 : mnx (vsm n E sc tg wt pr t) t b n ≤ 999 := Nat.le_trans (mnx_le _ _ _ _) hb
    have k2 : smx (vsm n E sc tg wt pr t) t n ≤ 6 * 384 := by
      have := smx_le (f := vsm n E sc tg wt pr t) (t := t) (c := 384) (i := n) (fun v hv => vsm_le hO hv)
      exact Nat.le_trans this (Nat.mul_le_mul_right _ hn)
    have hm : F_247 W.md (nI t) = (if nI (mnx (vsm n E sc tg wt pr t) t b n) ≤ 0 then J_247_0_j98 y (nI (mnx (vsm n E sc tg wt pr t) t b n)) (nI (smx (vsm n E sc tg wt pr t) t n)) 0 else J_247_0_j98 y (nI (mnx (vsm n E sc tg wt pr t) t b n)) (nI (smx (vsm n E sc tg wt pr t) t n)) 1) := by
      unfold F_247
      rw [hy, Option.bind_some, e172, Option.bind_some, m135t, Option.bind_some]
      dsimp only
      rw [if_pos rfl, show ix 0 93 = some 0 from rfl, Option.bind_some, rM.1]
      rcases hbm with ⟨e1, e2⟩ | e1
      · rw [e1, e2]
        unfold J_247_0_j37
        rw [m247l rM rS hO hG ht (by decide)]
        rfl
      · rw [e1]
        unfold J_247_0_j37
        rw [m247l rM rS hO hG ht hb]
        rfl
    have hc : F_119 W (nI t) = (if 0 < nI (mnx (vsm n E sc tg wt pr t) t b n) then (if nI (mnx (vsm n E sc tg wt pr t) t b n) = 0 then none else some (.inl ((nI (smx (vsm n E sc tg wt pr t) t n) / nI (mnx (vsm n E sc tg wt pr t) t b n)) + 1), W)) else some (.inr 4, W.thr)) := by
      unfold F_119
      rw [c124t qB (by omega) ht, Option.bind_some]
      dsimp only
      rw [xq_l, c34 qB qS hO hG ht, Option.bind_some, hbc]
      unfold J_119_0_j32
      rw [c119l qB qS hO hn ht hb]
      rfl
    by_cases h0 : mnx (vsm n E sc tg wt pr t) t b n = 0
    · rw [h0] at hm hc
      refine ans_no (v := 2) (B := W.thr) (u := 0) (o := y.w_thrown 2) (by decide) ?_ ?_ rfl (h.ex y2 2)
      · unfold F_295
        rw [hc]
        rfl
      · show F_247 W.md (nI t) = _
        rw [hm]
        rfl
    · have g0 : ¬ nI (mnx (vsm n E sc tg wt pr t) t b n) = 0 := nI_ne0 (by omega) (by omega)
      have gp : (0 : Int32) < nI (mnx (vsm n E sc tg wt pr t) t b n) := nI_lt (a := 0) (by omega) (by omega)
      have gq : ¬ nI (mnx (vsm n E sc tg wt pr t) t b n) ≤ (0 : Int32) := nI_ge (a := 0) (by omega) (by omega)
      refine ans_ok (B := W) (u := nI (smx (vsm n E sc tg wt pr t) t n) / nI (mnx (vsm n E sc tg wt pr t) t b n) + 1) (o := y) ?_ ?_ y1 (h.read (RG.rf hol hfc) (by decide) y2)
      · unfold F_295
        rw [hc, if_pos gp, if_neg g0]
        rfl
      · show F_247 W.md (nI t) = _
        rw [hm, if_neg gq]
        unfold J_247_0_j98
        rw [show F_135 y 1 2 = some (0, y) from rfl, Option.bind_some]
        dsimp only
        rw [if_pos rfl, if_neg g0]
        rfl
  | false =>
    rw [hv] at e172
    refine ans_no (v := 1) (B := W.thr) (u := 0) (o := y.w_thrown 1) (by decide) ?_ ?_ rfl (h.ex y2 1)
    · unfold F_295 F_119
      rw [c124f qB (by omega) hv]
      rfl
    · show F_247 W.md x = _
      unfold F_247
      rw [hy, Option.bind_some, e172, Option.bind_some, m135f]
      rfl
end RS
