/-! ===== Long.bitCount ===== -/
theorem sm_split (f : Nat → Nat) (m : Nat) : ∀ n, sm f (m + n) = sm f m + sm (fun k => f (m + k)) n
  | 0 => rfl
  | n + 1 => by rw [← Nat.add_assoc, sm, sm_split f m n, sm, Nat.add_assoc]
theorem cat_bit {p q j : Nat} (hp : p < 256) : (p + 256 * q).testBit j = if j < 8 then p.testBit j else q.testBit (j - 8) := by
  rw [Nat.add_comm, show 256 * q + p = 2 ^ 8 * q + p from rfl, Nat.testBit_two_pow_mul_add _ hp]
def bM1 : Nat := 6148914691236517205
def bM2 : Nat := 3689348814741910323
def bM3 : Nat := 1085102592571150095
theorem bM1_bit : ∀ j, j < 72 → bM1.testBit j = decide (j < 64 ∧ j % 2 = 0) := by decide +kernel
theorem bM2_bit : ∀ j, j < 72 → bM2.testBit j = decide (j < 64 ∧ j % 4 < 2) := by decide +kernel
theorem bM3_bit : ∀ j, j < 72 → bM3.testBit j = decide (j < 64 ∧ j % 8 < 4) := by decide +kernel
theorem div_bit (x k j : Nat) : (x / 2 ^ k).testBit j = x.testBit (k + j) := by
  rw [← Nat.shiftRight_eq_div_pow, Nat.testBit_shiftRight]
/-- a mask of bytes, each the same, over a number cut at a byte -/
theorem cat_mask {M a b k : Nat} (P : Nat → Bool) (hM : ∀ j, j < 72 → M.testBit j = decide (j < 64 ∧ P (j % 8) = true)) (hM2 : M < 2 ^ 64) (hk : k < 8) (hP : ∀ j, j < 8 → 8 ≤ j + k → P j = false) (ha : a < 256) (hb : b < 2 ^ 56) :
    ((a + 256 * b) / 2 ^ k) &&& M = ((a / 2 ^ k) &&& M) + 256 * ((b / 2 ^ k) &&& M) := by
  have h1 : (a / 2 ^ k) &&& M < 256 := Nat.lt_of_le_of_lt (Nat.and_le_left) (Nat.lt_of_le_of_lt (Nat.div_le_self _ _) ha)
  refine bit_ext fun j => ?_
  rw [cat_bit h1, Nat.testBit_and, div_bit, cat_bit ha]
  by_cases hj : j < 8
  · rw [if_pos hj, Nat.testBit_and, div_bit, hM j (by omega)]
    by_cases h2 : k + j < 8
    · rw [if_pos h2]
    · rw [if_neg h2, Nat.mod_eq_of_lt hj, hP j hj (by omega)]
      simp
  · rw [if_neg hj, if_neg (by omega), Nat.testBit_and, div_bit, show k + j - 8 = k + (j - 8) by omega]
    by_cases h2 : j < 72
    · rw [hM j h2, hM (j - 8) (by omega), show (j - 8) % 8 = j % 8 by omega]
      by_cases h3 : j < 64
      · simp [h3, show j - 8 < 64 by omega]
      · rw [bit_ge hb (show 56 ≤ k + (j - 8) by omega), Bool.false_and, Bool.false_and]
    · rw [bit_ge hM2 (show 64 ≤ j by omega), bit_ge hM2 (show 64 ≤ j - 8 by omega)]
def s1 (x : Nat) : Nat := x - ((x / 2 ^ 1) &&& bM1)
def s2 (x : Nat) : Nat := ((x / 2 ^ 0) &&& bM2) + ((x / 2 ^ 2) &&& bM2)
def s3 (x : Nat) : Nat := (x + x / 16) &&& bM3
theorem s1_le (x : Nat) : s1 x ≤ x := Nat.sub_le _ _
theorem s1_cat {a b : Nat} (ha : a < 256) (hb : b < 2 ^ 56) : s1 (a + 256 * b) = s1 a + 256 * s1 b := by
  unfold s1
  rw [cat_mask (fun j => decide (j % 2 = 0)) (fun j hj => by rw [bM1_bit j hj]; simp) (by decide) (by decide) (by decide) ha hb]
  have h1 : (a / 2 ^ 1) &&& bM1 ≤ a := Nat.le_trans Nat.and_le_left (Nat.div_le_self _ _)
  have h2 : (b / 2 ^ 1) &&& bM1 ≤ b := Nat.le_trans Nat.and_le_left (Nat.div_le_self _ _)
  omega
theorem s2_cat {a b : Nat} (ha : a < 256) (hb : b < 2 ^ 56) : s2 (a + 256 * b) = s2 a + 256 * s2 b := by
  unfold s2
  rw [cat_mask (fun j => decide (j % 4 < 2)) (fun j hj => by rw [bM2_bit j hj]; simp) (by decide) (by decide) (by decide) ha hb,
    cat_mask (fun j => decide (j % 4 < 2)) (fun j hj => by rw [bM2_bit j hj]; simp) (by decide) (by decide) (by decide) ha hb]
  omega
theorem s21_byte : ∀ a, a < 256 → s1 a < 256 ∧ s2 (s1 a) % 16 ≤ 4 ∧ s2 (s1 a) < 80 ∧ s3 (s2 (s1 a)) = pcn a 8 ∧ pcn a 8 ≤ 8 := by decide +kernel
theorem and15_cat {a b : Nat} (ha : a < 256) (hb : b < 2 ^ 56) : (a + 256 * b) &&& bM3 = (a &&& bM3) + 256 * (b &&& bM3) := by
  have := cat_mask (M := bM3) (k := 0) (fun j => decide (j % 8 < 4)) (fun j hj => by rw [bM3_bit j hj]; simp) (by decide) (by decide) (by decide) ha hb
  rw [Nat.pow_zero, Nat.div_one, Nat.div_one, Nat.div_one] at this
  exact this
theorem low15 : ∀ a, a < 80 → ∀ k, k ≤ 4 → (a + a / 16 + 16 * k) &&& bM3 = (a + a / 16) &&& bM3 := by decide +kernel
theorem s3_cat {a b : Nat} (ha : a < 80) (hb : b < 2 ^ 55) (h4 : b % 16 ≤ 4) : s3 (a + 256 * b) = s3 a + 256 * s3 b := by
  unfold s3
  rw [show (a + 256 * b) + (a + 256 * b) / 16 = (a + a / 16 + 16 * (b % 16)) + 256 * (b + b / 16) by omega, and15_cat (by omega) (by omega), low15 a ha _ h4]
def s321 (x : Nat) : Nat := s3 (s2 (s1 x))
theorem s2_le (x : Nat) : s2 x ≤ 2 * x := by
  unfold s2
  have h1 : (x / 2 ^ 0) &&& bM2 ≤ x := Nat.le_trans Nat.and_le_left (Nat.div_le_self _ _)
  have h2 : (x / 2 ^ 2) &&& bM2 ≤ x := Nat.le_trans Nat.and_le_left (Nat.div_le_self _ _)
  omega
theorem s321_cat {a b : Nat} (ha : a < 256) (hb : b < 2 ^ 48) : s321 (a + 256 * b) = pcn a 8 + 256 * s321 b := by
  obtain ⟨q1, q2, q3, q4, -⟩ := s21_byte a ha
  have h1 := s1_le b
  have h2 := s2_le (s1 b)
  unfold s321
  rw [s1_cat ha (by omega), s2_cat q1 (by omega), s3_cat q3 (by omega) ?_, q4]
  have h3 : b = b % 256 + 256 * (b / 256) := by omega
  have h4 : b % 256 < 256 := by omega
  have h5 := s1_le (b / 256)
  obtain ⟨r1, r2, r3, -, -⟩ := s21_byte (b % 256) h4
  rw [h3, s1_cat h4 (by omega), s2_cat r1 (by omega)]
  omega
theorem s321_0 : s321 0 = 0 := by decide +kernel
theorem pcn_byte (E i : Nat) : pcn (E / 2 ^ (8 * i) % 256) 8 = sm (fun k => if E.testBit (8 * i + k) then 1 else 0) 8 := by
  unfold pcn
  apply sm_cong
  intro k hk
  rw [show 256 = 2 ^ 8 from rfl, Nat.testBit_mod_two_pow, div_bit]
  simp [hk]
theorem c254 {E : Nat} (hE : E < 2 ^ 36) : F_254 (lN E) = some (nI (pcn E 40)) := by
  have b1 : E = E % 256 + 256 * (E / 2 ^ 8) := by omega
  have hsum : pcn E 40 = pcn (E % 256) 8 + pcn (E / 2 ^ 8 % 256) 8 + pcn (E / 2 ^ 16 % 256) 8 + pcn (E / 2 ^ 24 % 256) 8 + pcn (E / 2 ^ 32 % 256) 8 := by
    have e0 := pcn_byte E 0
    have e1 := pcn_byte E 1
    have e2 := pcn_byte E 2
    have e3 := pcn_byte E 3
    have e4 := pcn_byte E 4
    rw [Nat.mul_zero, Nat.pow_zero, Nat.div_one] at e0
    rw [e0, e1, e2, e3, e4]
    unfold pcn
    rw [show 40 = 32 + 8 from rfl, sm_split, show 32 = 24 + 8 from rfl, sm_split, show 24 = 16 + 8 from rfl, sm_split, show 16 = 8 + 8 from rfl, sm_split]
    simp only [Nat.zero_add]
  have hC : s321 E = pcn (E % 256) 8 + 256 * (pcn (E / 2 ^ 8 % 256) 8 + 256 * (pcn (E / 2 ^ 16 % 256) 8 + 256 * (pcn (E / 2 ^ 24 % 256) 8 + 256 * pcn (E / 2 ^ 32 % 256) 8))) := by
    rw [b1, s321_cat (by omega) (by omega), ← b1]
    rw [show E / 2 ^ 8 = E / 2 ^ 8 % 256 + 256 * (E / 2 ^ 16) by omega, s321_cat (by omega) (by omega), show E / 2 ^ 8 % 256 + 256 * (E / 2 ^ 16) = E / 2 ^ 8 by omega]
    rw [show E / 2 ^ 16 = E / 2 ^ 16 % 256 + 256 * (E / 2 ^ 24) by omega, s321_cat (by omega) (by omega), show E / 2 ^ 16 % 256 + 256 * (E / 2 ^ 24) = E / 2 ^ 16 by omega]
    rw [show E / 2 ^ 24 = E / 2 ^ 24 % 256 + 256 * (E / 2 ^ 32) by omega, s321_cat (by omega) (by omega), show E / 2 ^ 24 % 256 + 256 * (E / 2 ^ 32) = E / 2 ^ 24 by omega]
    rw [show E / 2 ^ 32 = E / 2 ^ 32 % 256 + 256 * 0 by omega, s321_cat (by omega) (by omega), s321_0, show E / 2 ^ 32 % 256 + 256 * 0 = E / 2 ^ 32 by omega]
    rw [show E / 2 ^ 32 % 256 = E / 2 ^ 32 by omega]
    omega
  have t0 := (s21_byte (E % 256) (by omega)).2.2.2.2
  have t1 := (s21_byte (E / 2 ^ 8 % 256) (by omega)).2.2.2.2
  have t2 := (s21_byte (E / 2 ^ 16 % 256) (by omega)).2.2.2.2
  have t3 := (s21_byte (E / 2 ^ 24 % 256) (by omega)).2.2.2.2
  have t4 := (s21_byte (E / 2 ^ 32 % 256) (by omega)).2.2.2.2
  -- the long's own steps
  have q1 := s1_le E
  have q2 := s2_le (s1 E)
  have r1 : lN E - ((ulshr (lN E) 1) &&& (6148914691236517205 : Int64)) = lN (s1 E) := by
    rw [show ulshr (lN E) 1 = lN (E / 2 ^ 1) from wb_shr (k := 1) (by omega) (by decide), show (6148914691236517205 : Int64) = lN bM1 from rfl, wb_and (by omega) (by decide)]
    exact lN_sub (Nat.le_trans Nat.and_le_left (Nat.div_le_self _ _))
  have r2 : (lN (s1 E) &&& (3689348814741910323 : Int64)) + ((ulshr (lN (s1 E)) 2) &&& (3689348814741910323 : Int64)) = lN (s2 (s1 E)) := by
    rw [show ulshr (lN (s1 E)) 2 = lN (s1 E / 2 ^ 2) from wb_shr (k := 2) (by omega) (by decide), show (3689348814741910323 : Int64) = lN bM2 from rfl, wb_and (by omega) (by decide), wb_and (by omega) (by decide), lN_add]
    unfold s2
    rw [Nat.pow_zero, Nat.div_one]
  have r3 : (lN (s2 (s1 E)) + (ulshr (lN (s2 (s1 E))) 4)) &&& (1085102592571150095 : Int64) = lN (s321 E) := by
    rw [show ulshr (lN (s2 (s1 E))) 4 = lN (s2 (s1 E) / 2 ^ 4) from wb_shr (k := 4) (by omega) (by decide), show (1085102592571150095 : Int64) = lN bM3 from rfl, lN_add, wb_and (by omega) (by decide)]
    rfl
  have hC2 : s321 E < 2 ^ 40 := by rw [hC]; omega
  have r4 : lN (s321 E) + ulshr (lN (s321 E)) 8 = lN (s321 E + s321 E / 2 ^ 8) := by
    rw [show ulshr (lN (s321 E)) 8 = lN (s321 E / 2 ^ 8) from wb_shr (k := 8) (by omega) (by decide), lN_add]
  have r5 : lN (s321 E + s321 E / 2 ^ 8) + ulshr (lN (s321 E + s321 E / 2 ^ 8)) 16 = lN (s321 E + s321 E / 2 ^ 8 + (s321 E + s321 E / 2 ^ 8) / 2 ^ 16) := by
    rw [show ulshr (lN (s321 E + s321 E / 2 ^ 8)) 16 = lN ((s321 E + s321 E / 2 ^ 8) / 2 ^ 16) from wb_shr (k := 16) (by omega) (by decide), lN_add]
  have r6 : lN (s321 E + s321 E / 2 ^ 8 + (s321 E + s321 E / 2 ^ 8) / 2 ^ 16) + ulshr (lN (s321 E + s321 E / 2 ^ 8 + (s321 E + s321 E / 2 ^ 8) / 2 ^ 16)) 32 = lN (s321 E + s321 E / 2 ^ 8 + (s321 E + s321 E / 2 ^ 8) / 2 ^ 16 + (s321 E + s321 E / 2 ^ 8 + (s321 E + s321 E / 2 ^ 8) / 2 ^ 16) / 2 ^ 32) := by
    rw [show ulshr (lN (s321 E + s321 E / 2 ^ 8 + (s321 E + s321 E / 2 ^ 8) / 2 ^ 16)) 32 = lN ((s321 E + s321 E / 2 ^ 8 + (s321 E + s321 E / 2 ^ 8) / 2 ^ 16) / 2 ^ 32) from wb_shr (k := 32) (by omega) (by decide), lN_add]
  unfold F_254
  rw [r1, r2, r3, r4, r5, r6, lN_i, show (127 : Int32) = nI (2 ^ 7 - 1) from rfl, fa_mask, hsum]
  congr 2
  generalize pcn (E % 256) 8 = a0 at *
  generalize pcn (E / 2 ^ 8 % 256) 8 = a1 at *
  generalize pcn (E / 2 ^ 16 % 256) 8 = a2 at *
  generalize pcn (E / 2 ^ 24 % 256) 8 = a3 at *
  generalize pcn (E / 2 ^ 32 % 256) 8 = a4 at *
  generalize s321 E = c at *
  clear r1 r2 r3 r4 r5 r6 hsum b1 q1 q2 hE hC2
  have d1 : c / 2 ^ 8 = a1 + 256 * (a2 + 256 * (a3 + 256 * a4)) := by omega
  have d2 : (c + c / 2 ^ 8) / 2 ^ 16 = (a2 + a3) + 256 * (a3 + a4) + 65536 * a4 := by omega
  have d3 : (c + c / 2 ^ 8 + (c + c / 2 ^ 8) / 2 ^ 16) / 2 ^ 32 = a4 := by omega
  rw [d3, d2, d1, hC]
  omega
theorem pcn_rows {n E : Nat} (h : Gr n E) : pcn E 40 = sm (fun v => pcn (nb E v) 6) n := by
  have hE := h.E_lt
  have hn := h.2.1
  have e1 : ∀ m, m ≤ 6 → sm (fun v => pcn (nb E v) 6) m = sm (fun k => if E.testBit k then 1 else 0) (6 * m) := by
    intro m
    induction m with
    | zero => intro _; rfl
    | succ m ih =>
      intro hm
      rw [sm, ih (by omega), show 6 * (m + 1) = 6 * m + 6 by omega, sm_split]
      congr 1
      unfold pcn
      apply sm_cong
      intro k hk
      rw [nb_bit, decide_eq_true hk, Bool.true_and]
      rfl
  have e2 : ∀ j, sm (fun k => if E.testBit k then 1 else 0) (6 * n + j) = sm (fun k => if E.testBit k then 1 else 0) (6 * n) := by
    intro j
    induction j with
    | zero => rfl
    | succ j ih =>
      rw [← Nat.add_assoc, sm, ih]
      have : E.testBit (6 * n + j) = false := by
        cases hb : E.testBit (6 * n + j) with
        | false => rfl
        | true =>
          have h1 : ad E ((6 * n + j) / 6) ((6 * n + j) % 6) = true := by
            unfold ad
            rw [show 6 * ((6 * n + j) / 6) + (6 * n + j) % 6 = 6 * n + j by omega]
            exact hb
          have h2 := (h.2.2 _ _ (Nat.mod_lt _ (by decide)) h1).1
          omega
      rw [this]
      rfl
  rw [e1 n hn]
  have := e2 (40 - 6 * n)
  rw [show 6 * n + (40 - 6 * n) = 40 by omega] at this
  exact this
def ec (n E : Nat) : Nat := sm (fun v => pcn (nb E v) 6) n / 2
theorem ec_le {n E : Nat} (hn : n ≤ 6) : sm (fun v => pcn (nb E v) 6) n ≤ 36 := by
  have := sm_le (f := fun v => pcn (nb E v) 6) (c := 6) (n := n) (fun i _ => pcn_le _ _)
  omega
theorem c7 {n E : Nat} {B : Bd} (hB : CB n E B) (h : Gr n E) : F_7 B = some (nI (ec n E)) := by
  have := ec_le (E := E) h.2.1
  unfold F_7 ec
  rw [hB.2, c254 h.E_lt, Option.bind_some, pcn_rows h, z2, pk_div (by omega) (by decide) (by decide)]
theorem ix0 : ix 0 93 = some 0 := ixn (i := 0) (by decide) (by decide)
