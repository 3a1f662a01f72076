/-! ===== NUMBERS AND LOOPS ===== -/
theorem ixn {i n : Nat} (h : i < n) (hn : n < 2 ^ 31) : ix (nI i) n = some i := by
  have hi : i < 2 ^ 31 := by omega
  unfold ix
  rw [if_pos (by rw [nI_toInt hi]; omega), nI_clamp hi]
theorem z0 : (0 : Int32) = nI 0 := rfl
theorem z1 : (1 : Int32) = nI 1 := rfl
theorem z2 : (2 : Int32) = nI 2 := rfl
theorem z3 : (3 : Int32) = nI 3 := rfl
theorem z4 : (4 : Int32) = nI 4 := rfl
theorem z5 : (5 : Int32) = nI 5 := rfl
theorem z6 : (6 : Int32) = nI 6 := rfl
theorem z7 : (7 : Int32) = nI 7 := rfl
theorem z8 : (8 : Int32) = nI 8 := rfl
theorem z10 : (10 : Int32) = nI 10 := rfl
theorem z12 : (12 : Int32) = nI 12 := rfl
theorem z13 : (13 : Int32) = nI 13 := rfl
theorem z14 : (14 : Int32) = nI 14 := rfl
theorem z15 : (15 : Int32) = nI 15 := rfl
theorem z16 : (16 : Int32) = nI 16 := rfl
theorem z20 : (20 : Int32) = nI 20 := rfl
theorem z24 : (24 : Int32) = nI 24 := rfl
theorem z32 : (32 : Int32) = nI 32 := rfl
theorem z36 : (36 : Int32) = nI 36 := rfl
theorem z63 : (63 : Int32) = nI 63 := rfl
theorem z64 : (64 : Int32) = nI 64 := rfl
theorem z93 : (93 : Int32) = nI 93 := rfl
theorem z99 : (99 : Int32) = nI 99 := rfl
theorem z400 : (400 : Int32) = nI 400 := rfl
theorem z999 : (999 : Int32) = nI 999 := rfl
/-- shifts -/
theorem shl_n (a : Nat) {k : Nat} (hk : k < 32) : nI a <<< (nI k &&& 31) = nI (a <<< k) := by
  apply Int32.toBitVec_inj.mp
  apply BitVec.eq_of_toNat_eq
  rw [pk_shl _ _ k (s_l k hk), Nat.shiftLeft_eq]
  show (BitVec.ofNat 32 a).toNat * 2 ^ k % 2 ^ 32 = (BitVec.ofNat 32 (a * 2 ^ k)).toNat
  rw [BitVec.toNat_ofNat, BitVec.toNat_ofNat, Nat.mod_mul_mod]
theorem shr_n {a k : Nat} (ha : a < 2 ^ 31) (hk : k < 32) : nI a >>> (nI k &&& 31) = nI (a >>> k) := by
  rw [pk_shrN ha _ k (s_l k hk), Nat.shiftRight_eq_div_pow]
theorem and1_n (a : Nat) : nI a &&& 1 = nI (a % 2) := by
  have := fa_mask a 1
  exact this
theorem tb0 {a k : Nat} (ha : a < 2 ^ 31) (hk : k < 32) : ((nI a >>> (nI k &&& 31)) &&& 1 = 0) ↔ ¬ a.testBit k = true := by
  rw [shr_n ha hk, and1_n, z0, nI_eq (by omega) (by omega), Nat.testBit, Nat.and_comm, Nat.and_one_is_mod]
  have : a >>> k % 2 < 2 := Nat.mod_lt _ (by decide)
  rcases (show a >>> k % 2 = 0 ∨ a >>> k % 2 = 1 by omega) with h | h <;> rw [h] <;> simp
theorem tb1 {a k : Nat} (ha : a < 2 ^ 31) (hk : k < 32) : ((nI a >>> (nI k &&& 31)) &&& 1 = 1) ↔ a.testBit k = true := by
  rw [shr_n ha hk, and1_n, z1, nI_eq (by omega) (by omega), Nat.testBit, Nat.and_comm, Nat.and_one_is_mod]
  have : a >>> k % 2 < 2 := Nat.mod_lt _ (by decide)
  rcases (show a >>> k % 2 = 0 ∨ a >>> k % 2 = 1 by omega) with h | h <;> rw [h] <;> simp
/-- a without b -/
def nd (a b : Nat) : Nat := a ^^^ (a &&& b)
theorem nd_bit (a b i : Nat) : (nd a b).testBit i = (a.testBit i && !b.testBit i) := by
  unfold nd
  rw [Nat.testBit_xor, Nat.testBit_and]
  cases a.testBit i <;> cases b.testBit i <;> rfl
theorem bt_nI {a i : Nat} (hi : i < 32) : bt (nI a) i = a.testBit i := by
  unfold bt
  show (BitVec.ofNat 32 a).getLsbD i = _
  rw [BitVec.getLsbD_ofNat]
  simp [hi]
theorem nd_n (a b : Nat) : nI a &&& (nI b ^^^ (-1)) = nI (nd a b) := by
  apply b_ext
  intro i hi
  rw [b_and, b_xor, b_m1 i hi, bt_nI hi, bt_nI hi, bt_nI hi, nd_bit]
  cases a.testBit i <;> cases b.testBit i <;> rfl
theorem bit_lt {a k : Nat} (h : ∀ i, k ≤ i → a.testBit i = false) : a < 2 ^ k := Nat.lt_pow_two_of_testBit a h
theorem bit_ext {a b : Nat} (h : ∀ i, a.testBit i = b.testBit i) : a = b := Nat.eq_of_testBit_eq h
theorem bit_ge {a k i : Nat} (h : a < 2 ^ k) (hi : k ≤ i) : a.testBit i = false := Nat.testBit_lt_two_pow (Nat.lt_of_lt_of_le h (Nat.pow_le_pow_right (by decide) hi))
theorem one_shl_bit (k i : Nat) : (1 <<< k).testBit i = decide (i = k) := by
  rw [Nat.one_shiftLeft, Nat.testBit_two_pow]
  by_cases h : k = i
  · subst h; simp
  · have : ¬ i = k := fun q => h q.symm
    simp [h, this]
/-- loops -/
theorem lw_seq {S X : Type} {f : S → Option (S ⊕ X)} (g : Nat → S) {n : Nat} {x : X} (h : ∀ i, i < n → f (g i) = some (.inl (g (i + 1)))) (he : f (g n) = some (.inr x)) : ∀ {k : Nat}, n < k → lw f k (g 0) = some x := by
  have key : ∀ j i k, i + j = n → j < k → lw f k (g i) = some x := by
    intro j
    induction j with
    | zero =>
      intro i k hi hk
      obtain rfl : i = n := by omega
      obtain ⟨k, rfl⟩ : ∃ q, k = q + 1 := ⟨k - 1, by omega⟩
      unfold lw
      rw [he]
    | succ j ih =>
      intro i k hi hk
      obtain ⟨k, rfl⟩ : ∃ q, k = q + 1 := ⟨k - 1, by omega⟩
      unfold lw
      rw [h i (by omega)]
      exact ih (i + 1) k (by omega) (by omega)
  intro k hk
  exact key n 0 k (by omega) hk
/-- a loop with an invariant, over a counter -/
theorem lw_for {S X : Type} {f : S → Option (S ⊕ X)} {n : Nat} (P : Nat → S → Prop) {Q : X → Prop} (hs : ∀ i s, i < n → P i s → (∃ t, f s = some (.inl t) ∧ P (i + 1) t) ∨ (∃ x, f s = some (.inr x) ∧ Q x)) (he : ∀ s, P n s → ∃ x, f s = some (.inr x) ∧ Q x) : ∀ {k : Nat} {s : S}, P 0 s → n < k → ∃ x, lw f k s = some x ∧ Q x := by
  have key : ∀ j i k s, i + j = n → j < k → P i s → ∃ x, lw f k s = some x ∧ Q x := by
    intro j
    induction j with
    | zero =>
      intro i k s hi hk hP
      obtain rfl : i = n := by omega
      obtain ⟨k, rfl⟩ : ∃ q, k = q + 1 := ⟨k - 1, by omega⟩
      obtain ⟨x, h1, h2⟩ := he s hP
      unfold lw
      rw [h1]
      exact ⟨x, rfl, h2⟩
    | succ j ih =>
      intro i k s hi hk hP
      obtain ⟨k, rfl⟩ : ∃ q, k = q + 1 := ⟨k - 1, by omega⟩
      unfold lw
      rcases hs i s (by omega) hP with ⟨t, h1, h2⟩ | ⟨x, h1, h2⟩
      · rw [h1]
        exact ih (i + 1) k t (by omega) (by omega) h2
      · rw [h1]
        exact ⟨x, rfl, h2⟩
  intro k s h0 hk
  exact key n 0 k s (by omega) hk h0
/-- a loop with a measure -/
theorem lw_while {S X : Type} {f : S → Option (S ⊕ X)} (I : S → Prop) (μ : S → Nat) {Q : X → Prop} (hs : ∀ s, I s → (∃ t, f s = some (.inl t) ∧ I t ∧ μ t < μ s) ∨ (∃ x, f s = some (.inr x) ∧ Q x)) : ∀ {k : Nat} {s : S}, I s → μ s < k → ∃ x, lw f k s = some x ∧ Q x
  | 0, _, _, hk => absurd hk (Nat.not_lt_zero _)
  | k + 1, s, hI, hk => by
    unfold lw
    rcases hs s hI with ⟨t, h1, h2, h3⟩ | ⟨x, h1, h2⟩
    · rw [h1]
      exact lw_while I μ hs h2 (by omega)
    · rw [h1]
      exact ⟨x, rfl, h2⟩
theorem lw_one {S X : Type} {f : S → Option (S ⊕ X)} {k : Nat} {s t : S} (h : f s = some (.inl t)) : lw f (k + 1) s = lw f k t := by
  conv => lhs; unfold lw
  rw [h]
theorem lw_end {S X : Type} {f : S → Option (S ⊕ X)} {k : Nat} {s : S} {x : X} (h : f s = some (.inr x)) : lw f (k + 1) s = some x := by
  unfold lw
  rw [h]
theorem bind_some' {α β : Type} {o : Option α} {a : α} {f : α → Option β} (h : o = some a) : o.bind f = f a := by
  subst h; rfl
/-- sums -/
def sm (f : Nat → Nat) : Nat → Nat
  | 0 => 0
  | n + 1 => sm f n + f n
theorem sm_le {f : Nat → Nat} {c : Nat} : ∀ {n : Nat}, (∀ i, i < n → f i ≤ c) → sm f n ≤ n * c
  | 0, _ => by simp [sm]
  | n + 1, h => by
    have h1 := sm_le (n := n) (fun i hi => h i (by omega))
    have h2 := h n (by omega)
    rw [sm, Nat.succ_mul]; omega
theorem sm_cong {f g : Nat → Nat} : ∀ {n : Nat}, (∀ i, i < n → f i = g i) → sm f n = sm g n
  | 0, _ => rfl
  | n + 1, h => by rw [sm, sm, sm_cong (n := n) (fun i hi => h i (by omega)), h n (by omega)]
theorem sm_mem {f : Nat → Nat} : ∀ {n i : Nat}, i < n → f i ≤ sm f n
  | n + 1, i, h => by
    rw [sm]
    rcases Nat.lt_or_ge i n with h1 | h1
    · have := sm_mem (f := f) h1; omega
    · obtain rfl : i = n := by omega
      omega
/-- or of masks -/
def om (f : Nat → Nat) : Nat → Nat
  | 0 => 0
  | n + 1 => om f n ||| f n
theorem om_bit {f : Nat → Nat} {j : Nat} : ∀ {n : Nat}, (om f n).testBit j = true ↔ ∃ i, i < n ∧ (f i).testBit j = true
  | 0 => by simp [om]
  | n + 1 => by
    rw [om, Nat.testBit_or, Bool.or_eq_true, om_bit]
    constructor
    · rintro (⟨i, h1, h2⟩ | h)
      · exact ⟨i, by omega, h2⟩
      · exact ⟨n, by omega, h⟩
    · rintro ⟨i, h1, h2⟩
      rcases Nat.lt_or_ge i n with h3 | h3
      · exact .inl ⟨i, h3, h2⟩
      · obtain rfl : i = n := by omega
        exact .inr h2
theorem om_lt {f : Nat → Nat} {k : Nat} : ∀ {n : Nat}, (∀ i, i < n → f i < 2 ^ k) → om f n < 2 ^ k
  | 0, _ => Nat.two_pow_pos k
  | n + 1, h => Nat.or_lt_two_pow (om_lt (fun i hi => h i (by omega))) (h n (by omega))
theorem bl_tr {a b : Bool} (h : a = true ↔ b = true) : a = b := by
  cases a <;> cases b <;> simp at h <;> rfl
