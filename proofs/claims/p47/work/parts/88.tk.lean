/-! ===== THE CLASS READS A TEXT: tokens (whole's 71 - 76, 80 - 86, 90 - 92, of the class alone; by mkp.py) ===== -/
/-- where a run of bytes from `lo` to `hi` ends; `f` bytes are left -/
def run (b : Nat → Nat) (lo hi : Nat) : Nat → Nat → Nat
  | 0, i => i
  | f + 1, i => if lo ≤ b i ∧ b i ≤ hi then run b lo hi f (i + 1) else i
theorem run_le (b : Nat → Nat) (lo hi : Nat) : ∀ f i, i ≤ run b lo hi f i ∧ run b lo hi f i ≤ i + f
  | 0, i => ⟨Nat.le_refl _, Nat.le_refl _⟩
  | f + 1, i => by
    have := run_le b lo hi f (i + 1)
    rw [run]
    split <;> omega
/-- the text: its bytes and its length -/
def TX (b : Nat → Nat) (len : Nat) (T : Tx) : Prop := T.length = nI len ∧ len ≤ 400 ∧ ∀ i, i < len → T.bytes i = nI (b i) ∧ b i < 256
section PARSE
variable {b : Nat → Nat} {len : Nat} {T : Tx}
theorem c65l (hT : TX b len T) {lo hi : Nat} (hlo : lo < 256) (hhi : hi < 256) : ∀ (f i k : Nat), i + f = len → f < k → lw (G_65_5 T (nI lo) (nI hi)) k (nI i) = some (nI (run b lo hi f i))
  | 0, i, k, h, hk => by
    obtain ⟨m, rfl⟩ : ∃ m, k = m + 1 := ⟨k - 1, by omega⟩
    have h4 := hT.2.1
    refine lw_end ?_
    simp only [G_65_5]
    rw [hT.1, if_pos (nI_le (by omega) (by omega))]
    rfl
  | f + 1, i, k, h, hk => by
    obtain ⟨m, rfl⟩ : ∃ m, k = m + 1 := ⟨k - 1, by omega⟩
    have h4 := hT.2.1
    obtain ⟨e1, e2⟩ := hT.2.2 i (by omega)
    by_cases q1 : lo ≤ b i
    · by_cases q2 : b i ≤ hi
      · rw [run, if_pos ⟨q1, q2⟩, ← c65l hT hlo hhi f (i + 1) m (by omega) (by omega)]
        refine lw_one ?_
        simp only [G_65_5]
        rw [hT.1, if_neg (nI_ge (by omega) (by omega)), ixn (by omega) (by decide), Option.bind_some, e1, if_neg (nI_nlt q1 (by omega)), if_neg (nI_nlt q2 (by omega)), nI_1]
      · rw [run, if_neg (fun z => q2 z.2)]
        refine lw_end ?_
        simp only [G_65_5]
        rw [hT.1, if_neg (nI_ge (by omega) (by omega)), ixn (by omega) (by decide), Option.bind_some, e1, if_neg (nI_nlt q1 (by omega)), if_pos (nI_lt (by omega) (by omega))]
    · rw [run, if_neg (fun z => q1 z.1)]
      refine lw_end ?_
      simp only [G_65_5]
      rw [hT.1, if_neg (nI_ge (by omega) (by omega)), ixn (by omega) (by decide), Option.bind_some, e1, if_pos (nI_lt (by omega) (by omega))]
theorem c65 (hT : TX b len T) {lo hi i : Nat} (hlo : lo < 256) (hhi : hi < 256) (hi' : i ≤ len) (hs : T.start = nI i) : F_65 T (nI lo) (nI hi) = some (nI (run b lo hi (len - i) i)) := by
  have h4 := hT.2.1
  unfold F_65
  rw [hs, c65l hT hlo hhi (len - i) i 200000 (by omega) (by omega), Option.bind_some]
  rfl
/-- a number read: `f` digits from `i` on -/
def nu (b : Nat → Nat) : Nat → Nat → Nat → Nat
  | 0, _, a => a
  | f + 1, i, a => nu b f (i + 1) (10 * a + b i - 48)
theorem c67l (hT : TX b len T) {e : Nat} (he : e ≤ len) (hs : T.stop = nI e) : ∀ (f i a k : Nat), i + f = e → f < k → (∀ j, i ≤ j → j < e → 48 ≤ b j) → lw (G_67_22 T) k (nI a, nI i) = some (nI (nu b f i a))
  | 0, i, a, k, h, hk, _ => by
    obtain ⟨m, rfl⟩ : ∃ m, k = m + 1 := ⟨k - 1, by omega⟩
    have h4 := hT.2.1
    refine lw_end ?_
    simp only [G_67_22]
    rw [hs, if_pos (nI_le (by omega) (by omega))]
    rfl
  | f + 1, i, a, k, h, hk, hd => by
    obtain ⟨m, rfl⟩ : ∃ m, k = m + 1 := ⟨k - 1, by omega⟩
    have h4 := hT.2.1
    obtain ⟨e1, e2⟩ := hT.2.2 i (by omega)
    have h48 := hd i (Nat.le_refl _) (by omega)
    rw [nu, ← c67l hT he hs f (i + 1) (10 * a + b i - 48) m (by omega) (by omega) (fun j h1 h2 => hd j (by omega) h2)]
    refine lw_one ?_
    simp only [G_67_22]
    rw [hs, if_neg (nI_ge (by omega) (by omega)), ixn (by omega) (by decide), Option.bind_some, e1, nI_1, z10, pk_mul, nI_add, show (48 : Int32) = nI 48 from rfl, pk_sub (by omega)]
end PARSE
/-- the token behind `p`: its start, the end of its letters and digits, its kind, its stop -/
def tS (b : Nat → Nat) (len p : Nat) : Nat := run b 32 32 (len - p) p
def tA (b : Nat → Nat) (len p : Nat) : Nat := run b 97 122 (len - tS b len p) (tS b len p)
def tD (b : Nat → Nat) (len p : Nat) : Nat := run b 48 57 (len - tS b len p) (tS b len p)
def tK (b : Nat → Nat) (len p : Nat) : Nat := if tS b len p < len then (if tS b len p < tA b len p then 1 else if tS b len p < tD b len p then 2 else 3) else 0
def tE (b : Nat → Nat) (len p : Nat) : Nat := if tK b len p = 3 then tS b len p + 1 else max (tA b len p) (tD b len p)
/-- a number's value, cut at 10000 where it has more than 3 digits -/
def tN (b : Nat → Nat) (len p : Nat) : Nat := nu b (tE b len p - tS b len p) (tS b len p) 0
section PARSE
variable {b : Nat → Nat} {len : Nat} {T : Tx}
theorem tS_le {p : Nat} (hp : p ≤ len) : p ≤ tS b len p ∧ tS b len p ≤ len := by
  have := run_le b 32 32 (len - p) p
  unfold tS
  omega
theorem tA_le {p : Nat} (hp : p ≤ len) : tS b len p ≤ tA b len p ∧ tA b len p ≤ len := by
  have := run_le b 97 122 (len - tS b len p) (tS b len p)
  have := tS_le (b := b) hp
  unfold tA
  omega
theorem tD_le {p : Nat} (hp : p ≤ len) : tS b len p ≤ tD b len p ∧ tD b len p ≤ len := by
  have := run_le b 48 57 (len - tS b len p) (tS b len p)
  have := tS_le (b := b) hp
  unfold tD
  omega
theorem tE_le {p : Nat} (hp : p ≤ len) : tS b len p ≤ tE b len p ∧ tE b len p ≤ len := by
  have h1 := tA_le (b := b) hp
  have h2 := tD_le (b := b) hp
  have h3 := tS_le (b := b) hp
  unfold tE
  split
  · rename_i q
    unfold tK at q
    by_cases z : tS b len p < len
    · omega
    · rw [if_neg z] at q; omega
  · omega
theorem run_in {b : Nat → Nat} {lo hi : Nat} : ∀ (f i j : Nat), i ≤ j → j < run b lo hi f i → lo ≤ b j ∧ b j ≤ hi
  | 0, i, j, h1, h2 => by rw [run] at h2; omega
  | f + 1, i, j, h1, h2 => by
    rw [run] at h2
    by_cases q : lo ≤ b i ∧ b i ≤ hi
    · rw [if_pos q] at h2
      by_cases w : i = j
      · subst w; exact q
      · exact run_in f (i + 1) j (by omega) h2
    · rw [if_neg q] at h2; omega
/-- letters and digits don't both begin -/
theorem tAD {p : Nat} : ¬ (tS b len p < tA b len p ∧ tS b len p < tD b len p) := fun ⟨h1, h2⟩ => by
  have a := run_in _ _ _ (Nat.le_refl _) h1
  have d := run_in _ _ _ (Nat.le_refl _) h2
  omega
def TF (T T' : Tx) : Prop := T'.length = T.length ∧ T'.bytes = T.bytes ∧ T'.draft = T.draft
theorem TF.rf (T : Tx) : TF T T := ⟨rfl, rfl, rfl⟩
theorem TF.tr {A B C : Tx} (h : TF A B) (k : TF B C) : TF A C := ⟨k.1.trans h.1, k.2.1.trans h.2.1, k.2.2.trans h.2.2⟩
theorem TX.of {T T' : Tx} (h : TX b len T) (k : TF T T') : TX b len T' := ⟨k.1.trans h.1, h.2.1, fun i hi => by rw [k.2.1]; exact h.2.2 i hi⟩
theorem tx_start (T : Tx) (x : Int32) : ∃ y, T.w_start x = y ∧ y.start = x ∧ y.stop = T.stop ∧ y.kind = T.kind ∧ y.value = T.value ∧ TF T y := ⟨_, rfl, rfl, rfl, rfl, rfl, rfl, rfl, rfl⟩
theorem tx_stop (T : Tx) (x : Int32) : ∃ y, T.w_stop x = y ∧ y.start = T.start ∧ y.stop = x ∧ y.kind = T.kind ∧ y.value = T.value ∧ TF T y := ⟨_, rfl, rfl, rfl, rfl, rfl, rfl, rfl, rfl⟩
theorem tx_kind (T : Tx) (x : Int32) : ∃ y, T.w_kind x = y ∧ y.start = T.start ∧ y.stop = T.stop ∧ y.kind = x ∧ y.value = T.value ∧ TF T y := ⟨_, rfl, rfl, rfl, rfl, rfl, rfl, rfl, rfl⟩
theorem tx_value (T : Tx) (x : Int32) : ∃ y, T.w_value x = y ∧ y.start = T.start ∧ y.stop = T.stop ∧ y.kind = T.kind ∧ y.value = x ∧ TF T y := ⟨_, rfl, rfl, rfl, rfl, rfl, rfl, rfl, rfl⟩
/-- the class stands at the token behind `p` -/
def CT (b : Nat → Nat) (len p : Nat) (T : Tx) : Prop := T.start = nI (tS b len p) ∧ T.stop = nI (tE b len p) ∧ T.kind = nI (tK b len p) ∧ (tK b len p = 2 → T.value = if tE b len p - tS b len p ≤ 3 then nI (tN b len p) else -1) ∧ (tK b len p = 3 → T.value = nI (b (tS b len p)))
theorem c66 (hT : TX b len T) {p : Nat} (hp : p ≤ len) (hs : T.stop = nI p) : ∃ T', F_66 T = some T' ∧ CT b len p T' ∧ TF T T' := by
  have h4 := hT.2.1
  have k1 := tS_le (b := b) hp
  have k2 := tA_le (b := b) hp
  have k3 := tD_le (b := b) hp
  have k4 := tE_le (b := b) hp
  have k5 := tAD (b := b) (len := len) (p := p)
  obtain ⟨A, hA, a1, a2, a3, a4, a5⟩ := tx_start T T.stop
  obtain ⟨B, hB, b1, b2, b3, b4, b5⟩ := tx_start A (nI (tS b len p))
  have fB := a5.tr b5
  have e1 : F_65 A 32 32 = some (nI (tS b len p)) := c65 (lo := 32) (hi := 32) (hT.of a5) (by decide) (by decide) hp (a1.trans hs)
  have e2 : F_65 B 97 122 = some (nI (tA b len p)) := c65 (lo := 97) (hi := 122) (hT.of fB) (by decide) (by decide) k1.2 b1
  have e3 : F_65 B 48 57 = some (nI (tD b len p)) := c65 (lo := 48) (hi := 57) (hT.of fB) (by decide) (by decide) k1.2 b1
  obtain ⟨C, hC, c1, c2, c3, c4, c5⟩ := tx_stop B (imx (nI (tA b len p)) (nI (tD b len p)))
  rw [imx_n (by omega) (by omega)] at c2
  have fC := fB.tr c5
  have sC : C.start = nI (tS b len p) := c1.trans b1
  have lC : C.length = nI len := fC.1.trans hT.1
  unfold F_66
  rw [hA, Option.bind_some, e1, Option.bind_some, hB, Option.bind_some, e2, Option.bind_some, e3, Option.bind_some, hC, Option.bind_some, sC, lC]
  by_cases q : tS b len p < len
  · rw [if_pos (nI_lt q (by omega))]
    by_cases q1 : tS b len p < tA b len p
    · obtain ⟨D, hD, d1, d2, d3, d4, d5⟩ := tx_kind C 1
      have hk : tK b len p = 1 := by unfold tK; rw [if_pos q, if_pos q1]
      have he : tE b len p = max (tA b len p) (tD b len p) := by unfold tE; rw [if_neg (by omega)]
      rw [if_neg (nI_ge q1 (by omega)), hD, Option.bind_some]
      exact ⟨D, rfl, ⟨d1.trans sC, by rw [d2, c2, he], by rw [d3, hk]; rfl, fun z => by omega, fun z => by omega⟩, fC.tr d5⟩
    · rw [if_pos (nI_le (by omega) (by omega))]
      by_cases q2 : tS b len p < tD b len p
      · obtain ⟨D, hD, d1, d2, d3, d4, d5⟩ := tx_kind C 2
        have hk : tK b len p = 2 := by unfold tK; rw [if_pos q, if_neg q1, if_pos q2]
        have he : tE b len p = max (tA b len p) (tD b len p) := by unfold tE; rw [if_neg (by omega)]
        have eD : D.stop = nI (tE b len p) := by rw [d2, c2, he]
        have sD : D.start = nI (tS b len p) := d1.trans sC
        have he2 : tE b len p = tD b len p := by omega
        have num : F_67 D = some (if tE b len p - tS b len p ≤ 3 then nI (tN b len p) else -1) := by
          unfold F_67
          rw [eD, sD, pk_sub k4.1]
          by_cases w : tE b len p - tS b len p ≤ 3
          · rw [z3, if_pos (nI_le w (by omega)), if_pos w]
            have := c67l (hT.of (fC.tr d5)) k4.2 eD (tE b len p - tS b len p) (tS b len p) 0 200000 (by omega) (by omega) (fun j h1 h2 => (run_in (b := b) (lo := 48) (hi := 57) _ _ j h1 (by rw [he2] at h2; exact h2)).1)
            rw [nI_0] at this
            rw [this]
            rfl
          · rw [z3, if_neg (nI_ge (by omega) (by omega)), if_neg w]
        obtain ⟨V, hV, v1, v2, v3, v4, v5⟩ := tx_value D (if tE b len p - tS b len p ≤ 3 then nI (tN b len p) else -1)
        rw [if_neg (nI_ge q2 (by omega)), hD, Option.bind_some, num, Option.bind_some, hV, Option.bind_some]
        exact ⟨V, rfl, ⟨v1.trans sD, v2.trans eD, by rw [v3, d3, hk]; rfl, fun _ => v4, fun z => by omega⟩, (fC.tr d5).tr v5⟩
      · obtain ⟨D, hD, d1, d2, d3, d4, d5⟩ := tx_kind C 3
        have hk : tK b len p = 3 := by unfold tK; rw [if_pos q, if_neg q1, if_neg q2]
        have he : tE b len p = tS b len p + 1 := by unfold tE; rw [if_pos hk]
        have sD : D.start = nI (tS b len p) := d1.trans sC
        have bD := ((hT.of (fC.tr d5)).2.2 _ q).1
        obtain ⟨V, hV, v1, v2, v3, v4, v5⟩ := tx_value D (nI (b (tS b len p)))
        obtain ⟨X, hX, w1, w2, w3, w4, w5⟩ := tx_stop V (nI (tS b len p + 1))
        rw [if_pos (nI_le (by omega) (by omega)), hD, Option.bind_some, sD, ixn (by omega) (by decide), Option.bind_some, bD, hV, Option.bind_some, v1, sD, nI_1, hX, Option.bind_some]
        exact ⟨X, rfl, ⟨w1.trans (v1.trans sD), by rw [w2, he], by rw [w3, v3, d3, hk]; rfl, fun z => by omega, fun _ => w4.trans v4⟩, ((fC.tr d5).tr v5).tr w5⟩
  · obtain ⟨D, hD, d1, d2, d3, d4, d5⟩ := tx_kind C 0
    have hk : tK b len p = 0 := by unfold tK; rw [if_neg q]
    have he : tE b len p = max (tA b len p) (tD b len p) := by unfold tE; rw [if_neg (by omega)]
    rw [if_neg (nI_nlt (by omega) (by omega)), hD, Option.bind_some]
    exact ⟨D, rfl, ⟨d1.trans sC, by rw [d2, c2, he], by rw [d3, hk]; rfl, fun z => by omega, fun z => by omega⟩, fC.tr d5⟩
end PARSE
def mu (b : Nat → Nat) : Nat → Nat → Nat → Nat
  | 0, _, a => a
  | f + 1, i, a => mu b f (i + 1) (min 10000 (10 * a + b i - 48))
theorem mu_le {b : Nat → Nat} : ∀ f i a, a ≤ 10000 → mu b f i a ≤ 10000
  | 0, _, _, h => h
  | f + 1, i, a, h => by rw [mu]; exact mu_le f (i + 1) _ (by omega)
theorem mu_nu {b : Nat → Nat} : ∀ f i a, (a + 1) * 10 ^ f ≤ 10000 → (∀ j, i ≤ j → j < i + f → 48 ≤ b j ∧ b j ≤ 57) → mu b f i a = nu b f i a
  | 0, _, _, _, _ => rfl
  | f + 1, i, a, h, hd => by
    obtain ⟨h1, h2⟩ := hd i (Nat.le_refl _) (by omega)
    have hp : 0 < 10 ^ f := Nat.pow_pos (by decide)
    have e : (a + 1) * 10 ^ (f + 1) = (10 * a + 10) * 10 ^ f := by rw [Nat.pow_succ, Nat.mul_comm (10 ^ f) 10, ← Nat.mul_assoc]; congr 1; omega
    have h3 : 10 * a + 10 ≤ (10 * a + 10) * 10 ^ f := Nat.le_mul_of_pos_right _ hp
    have h4 : (10 * a + b i - 48 + 1) * 10 ^ f ≤ (10 * a + 10) * 10 ^ f := Nat.mul_le_mul_right _ (by omega)
    rw [mu, nu, show min 10000 (10 * a + b i - 48) = 10 * a + b i - 48 by omega]
    exact mu_nu f (i + 1) _ (by omega) (fun j j1 j2 => hd j (by omega) (by omega))
section PARSE
variable {b : Nat → Nat} {len : Nat}
end PARSE
theorem if_congr_dec {P : Prop} [Decidable P] {α : Type} (x y : α) : (if P then x else y) = if decide P = true then x else y := by
  by_cases q : P
  · rw [if_pos q, if_pos (decide_eq_true q)]
  · rw [if_neg q, if_neg (by rw [decide_eq_false q]; decide)]
section PARSE
variable {b : Nat → Nat} {len : Nat} {T : Tx}
theorem am_tx_len : ∀ k, k < 4 → (am_tx k).length < 400 := by decide +kernel
/-- the token is the word `k` -/
def wd (k : Nat) (b : Nat → Nat) (len p : Nat) : Bool := decide (tK b len p = 1) && decide (tE b len p - tS b len p = (am_tx k).length) && al (fun i => decide (nI (b (tS b len p + i)) = (am_tx k).getD i 0)) (am_tx k).length
theorem c68 (hT : TX b len T) {p k : Nat} (hk : k < 4) (hp : p ≤ len) (hC : CT b len p T) : F_68 k T = some (bI (wd k b len p)) := by
  have h4 := hT.2.1
  have k1 := tE_le (b := b) hp
  have kl := am_tx_len k hk
  have hk3 : tK b len p ≤ 3 := by unfold tK; split <;> (try split) <;> (try split) <;> omega
  unfold F_68
  rw [hC.2.2.1, hC.1, hC.2.1, pk_sub k1.1]
  by_cases q : tK b len p = 1
  · rw [if_neg (by rw [q]; exact fun z => z rfl)]
    by_cases q2 : tE b len p - tS b len p = (am_tx k).length
    · rw [if_pos (by rw [q2]; rfl)]
      have key := lw_all (f := G_68_28 k T) (P := fun i => decide (nI (b (tS b len p + i)) = (am_tx k).getD i 0)) (n := (am_tx k).length) (fun i hi => by
        simp only [G_68_28]
        rw [show Int32.ofNat (am_tx k).length = nI (am_tx k).length from rfl, if_neg (nI_ge hi (by omega)), hC.1, nI_add, ixn (by omega) (by decide), Option.bind_some, ixn hi (by omega), Option.bind_some, (hT.2.2 _ (by omega)).1, nI_1]
        exact if_congr_dec _ _) (by
        simp only [G_68_28]
        rw [show Int32.ofNat (am_tx k).length = nI (am_tx k).length from rfl, if_pos (nI_le (Nat.le_refl _) (by omega))]) (by omega)
      obtain ⟨r, hr, h⟩ := key
      rw [nI_0] at hr
      rw [hr, Option.bind_some]
      unfold wd
      rw [decide_eq_true q, decide_eq_true q2]
      rcases h with ⟨h1, rfl⟩ | ⟨h1, rfl⟩
      · rw [h1]; rfl
      · rw [h1]; rfl
    · rw [if_neg (by show ¬ nI _ = nI _; rw [nI_eq (by omega) (by omega)]; exact q2)]
      unfold wd
      rw [decide_eq_false q2, Bool.and_false, Bool.false_and]
      rfl
  · rw [if_pos (by rw [z1, nI_eq (by omega) (by omega)]; exact q)]
    unfold wd
    rw [decide_eq_false q, Bool.false_and, Bool.false_and]
    rfl
end PARSE
section PARSE
variable {b : Nat → Nat} {len : Nat} {T : Tx}
theorem tK_le (b : Nat → Nat) (len p : Nat) : tK b len p ≤ 3 := by unfold tK; split <;> (try split) <;> (try split) <;> omega
/-- the token is a number from `lo` to `hi` -/
def ism (lo hi : Nat) (b : Nat → Nat) (len p : Nat) : Bool := decide (tK b len p = 2 ∧ tE b len p - tS b len p ≤ 3 ∧ lo ≤ tN b len p ∧ tN b len p ≤ hi)
theorem tN_le {p : Nat} (hp : p ≤ len) (h2 : tK b len p = 2) (h3 : tE b len p - tS b len p ≤ 3) : tN b len p ≤ 10000 := by
  have k2 := tA_le (b := b) hp
  have k3 := tD_le (b := b) hp
  have he : tE b len p = max (tA b len p) (tD b len p) := by unfold tE; rw [if_neg (by omega)]
  have hna : ¬ tS b len p < tA b len p := fun z => by
    unfold tK at h2
    by_cases q : tS b len p < len
    · rw [if_pos q, if_pos z] at h2; omega
    · omega
  have he2 : tE b len p = tD b len p := by omega
  unfold tN
  rw [← mu_nu _ _ _ (by
    have : 10 ^ (tE b len p - tS b len p) ≤ 10 ^ 3 := Nat.pow_le_pow_right (by decide) h3
    omega) (fun j h1 h4 => run_in (b := b) (lo := 48) (hi := 57) _ _ j h1 (show j < tD b len p by omega))]
  exact mu_le _ _ _ (by decide)
theorem c69 {p lo hi : Nat} (hp : p ≤ len) (hC : CT b len p T) (hlo : lo < 2 ^ 31) (hhi : hi < 2 ^ 31) : F_69 T (nI lo) (nI hi) = some (bI (ism lo hi b len p)) := by
  have hk3 := tK_le b len p
  unfold F_69 ism
  rw [hC.2.2.1]
  by_cases q : tK b len p = 2
  · rw [if_neg (by rw [q]; exact fun z => z rfl), hC.2.2.2.1 q]
    by_cases q2 : tE b len p - tS b len p ≤ 3
    · have hn := tN_le hp q q2
      rw [if_pos q2]
      by_cases q3 : lo ≤ tN b len p
      · rw [if_neg (nI_nlt q3 (by omega))]
        by_cases q4 : tN b len p ≤ hi
        · rw [if_neg (nI_nlt q4 hhi), decide_eq_true ⟨q, q2, q3, q4⟩]
          rfl
        · rw [if_pos (nI_lt (by omega) (by omega)), decide_eq_false (fun z => q4 z.2.2.2)]
          rfl
      · rw [if_pos (nI_lt (by omega) hlo), decide_eq_false (fun z => q3 z.2.2.1)]
        rfl
    · have : (-1 : Int32) < nI lo := by
        rw [Int32.lt_iff_toInt_lt, nI_toInt hlo]
        have : (-1 : Int32).toInt = -1 := by decide
        omega
      rw [if_neg q2, if_pos this, decide_eq_false (fun z => q2 z.2.1)]
      rfl
  · rw [if_pos (by rw [z2, nI_eq (by omega) (by omega)]; exact q), decide_eq_false (fun z => q z.1)]
    rfl
end PARSE
section PARSE
variable {b : Nat → Nat} {len : Nat} {T : Tx} {tg : Nat → Nat} {wt : Nat → Nat → Nat} {pr : Nat → Nat → Option Nat}
theorem tx_draft (T : Tx) (x : Bd) : ∃ y, T.w_draft x = y ∧ y.start = T.start ∧ y.stop = T.stop ∧ y.kind = T.kind ∧ y.value = T.value ∧ y.length = T.length ∧ y.bytes = T.bytes ∧ y.draft = x := ⟨_, rfl, rfl, rfl, rfl, rfl, rfl, rfl, rfl⟩
end PARSE
section PARSE
variable {b : Nat → Nat} {len n E sc : Nat} {pl : Nat → Nat} {T : Tx} {tg : Nat → Nat} {wt : Nat → Nat → Nat} {pr : Nat → Nat → Option Nat}
theorem bd_pile (B : Bd) (f : Nat → Int32) : ∃ y, B.w_pile f = y ∧ y.pile = f ∧ y.vertices = B.vertices ∧ y.edges = B.edges ∧ y.moveCount = B.moveCount ∧ y.strategyCount = B.strategyCount ∧ y.targets = B.targets ∧ y.weights = B.weights ∧ y.parents = B.parents := ⟨_, rfl, rfl, rfl, rfl, rfl, rfl, rfl, rfl, rfl⟩
theorem tE_ge {p : Nat} (hp : p ≤ len) : p ≤ tE b len p := by
  have := tS_le (b := b) hp
  have := tE_le (b := b) hp
  omega
end PARSE
section PARSE
variable {b : Nat → Nat} {len n E sc : Nat} {pl : Nat → Nat} {T : Tx} {tg : Nat → Nat} {wt : Nat → Nat → Nat} {pr : Nat → Nat → Option Nat}
theorem tE_gt {p lo hi : Nat} (hp : p ≤ len) (h : ism lo hi b len p = true) : p < tE b len p := by
  obtain ⟨q1, q2, q3, q4⟩ := of_decide_eq_true h
  have k0 := tS_le (b := b) hp
  have k2 := tA_le (b := b) hp
  have k3 := tD_le (b := b) hp
  have he : tE b len p = max (tA b len p) (tD b len p) := by unfold tE; rw [if_neg (by omega)]
  unfold tK at q1
  split at q1
  · split at q1
    · omega
    · split at q1
      · omega
      · omega
  · omega
end PARSE
section PARSE
variable {b : Nat → Nat} {len n E sc : Nat} {pl : Nat → Nat} {T : Tx} {tg : Nat → Nat} {wt : Nat → Nat → Nat} {pr : Nat → Nat → Option Nat}
theorem bd_sbw (B : Bd) (f g h : Nat → Int32) (c : Int32) : ∃ y, sbw B f g h c = y ∧ y.vertices = B.vertices ∧ y.edges = B.edges ∧ y.pile = B.pile ∧ y.moveCount = B.moveCount := ⟨_, rfl, rfl, rfl, rfl, rfl⟩
theorem bd_wp (B : Bd) (f g : Nat → Int32) : ∃ y, (B.w_weights f).w_parents g = y ∧ y.vertices = B.vertices ∧ y.edges = B.edges ∧ y.pile = B.pile ∧ y.moveCount = B.moveCount := ⟨_, rfl, rfl, rfl, rfl, rfl⟩
end PARSE
section PARSE
variable {b : Nat → Nat} {len n E sc : Nat} {pl : Nat → Nat} {T : Tx} {tg : Nat → Nat} {wt : Nat → Nat → Nat} {pr : Nat → Nat → Option Nat}
theorem bI_pr {r : Bool} {α : Type} {x : α} : (if bI r = 0 ∨ bI r = 1 then some x else none) = some x := bI_ok
end PARSE
def bq (x s : Int32) : Nat := ((x >>> (s &&& 31)) &&& 255).toBitVec.toNat
theorem bq_lt (x s : Int32) : bq x s < 256 := by
  have h : bq x s = (x >>> (s &&& 31)).toBitVec.toNat &&& 255 := by
    unfold bq
    rw [Int32.toBitVec_and, BitVec.toNat_and]
    rfl
  have := Nat.and_le_right (n := (x >>> (s &&& 31)).toBitVec.toNat) (m := 255)
  omega
theorem bq_n (x s : Int32) : (x >>> (s &&& 31)) &&& 255 = nI (bq x s) := by
  unfold bq
  generalize (x >>> (s &&& 31)) &&& 255 = y
  apply Int32.toBitVec_inj.1
  show y.toBitVec = BitVec.ofNat 32 y.toBitVec.toNat
  simp
/-- bytes laid behind a text, the zeros left out -/
def ap : List Nat → (Nat → Nat) → Nat → (Nat → Nat) × Nat
  | [], b, len => (b, len)
  | m :: l, b, len => if m = 0 then ap l b len else ap l (fun j => if j = len then m else b j) (len + 1)
def cn : List Nat → Nat
  | [] => 0
  | m :: l => (if m = 0 then 0 else 1) + cn l
theorem ap_app : ∀ (l l2 : List Nat) (b : Nat → Nat) (len : Nat), ap (l ++ l2) b len = ap l2 (ap l b len).1 (ap l b len).2
  | [], l2, b, len => rfl
  | m :: l, l2, b, len => by
    show (if m = 0 then ap (l ++ l2) b len else ap (l ++ l2) (fun j => if j = len then m else b j) (len + 1)) = ap l2 (if m = 0 then ap l b len else ap l (fun j => if j = len then m else b j) (len + 1)).1 (if m = 0 then ap l b len else ap l (fun j => if j = len then m else b j) (len + 1)).2
    by_cases h : m = 0
    · rw [if_pos h, if_pos h]; exact ap_app l l2 b len
    · rw [if_neg h, if_neg h]; exact ap_app l l2 _ _
theorem ap_len : ∀ (l : List Nat) (b : Nat → Nat) (len : Nat), (ap l b len).2 = len + cn l
  | [], b, len => rfl
  | m :: l, b, len => by
    unfold ap cn
    split
    · rw [ap_len l, Nat.zero_add]
    · rw [ap_len l]; omega
theorem cn_app : ∀ (l l2 : List Nat), cn (l ++ l2) = cn l + cn l2
  | [], l2 => by rw [List.nil_append, show cn [] = 0 from rfl, Nat.zero_add]
  | m :: l, l2 => by
    show (if m = 0 then 0 else 1) + cn (l ++ l2) = (if m = 0 then 0 else 1) + cn l + cn l2
    rw [cn_app l l2, Nat.add_assoc]
theorem cn_le : ∀ l : List Nat, cn l ≤ l.length
  | [] => Nat.le_refl _
  | m :: l => by
    have := cn_le l
    unfold cn
    rw [List.length_cons]
    split <;> omega
def b4 (x : Int32) : List Nat := [bq x 24, bq x 16, bq x 8, bq x 0]
section AP
variable {b : Nat → Nat} {len : Nat} {T : Tx}
theorem c63s (x a s : Int32) (hs : ¬ s < 0) {n : Nat} (ha : a = nI n) : G_63_5 x (a, s) = some (.inl (nI (n + if bq x s = 0 then 0 else 1), s + (-8))) := by
  simp only [G_63_5, J_63_5_j22]
  rw [if_neg hs, bq_n]
  have := bq_lt x s
  by_cases h : bq x s = 0
  · rw [if_pos (by rw [h]; rfl), if_pos h, ha, Nat.add_zero]
  · rw [if_neg (nI_ne0 (by omega) (by omega)), if_neg h, ha, z1, nI_add]
theorem c63 (x : Int32) : F_63 x = some (nI (cn (b4 x))) := by
  unfold F_63
  have e : lw (G_63_5 x) 200000 (0, 24) = some (nI (cn (b4 x))) := by
    refine (lw_one (k := 199999) (c63s x 0 24 (by decide) (n := 0) rfl)).trans ?_
    refine (lw_one (k := 199998) (c63s x _ (24 + (-8)) (by decide) rfl)).trans ?_
    refine (lw_one (k := 199997) (c63s x _ (24 + (-8) + (-8)) (by decide) rfl)).trans ?_
    refine (lw_one (k := 199996) (c63s x _ (24 + (-8) + (-8) + (-8)) (by decide) rfl)).trans ?_
    refine lw_end (k := 199995) ?_
    simp only [G_63_5]
    rw [if_pos (by decide)]
    congr 2
    show nI _ = nI (_ + (_ + (_ + (_ + 0))))
    congr 1
    rw [show (24 + (-8) : Int32) = 16 by decide, show (16 + (-8) : Int32) = 8 by decide, show (8 + (-8) : Int32) = 0 by decide]
    omega
  rw [e]
  rfl
theorem tx_byte (T : Tx) (f : Nat → Int32) (x : Int32) : ∃ y, (T.w_bytes f).w_length x = y ∧ y.bytes = f ∧ y.length = x := ⟨_, rfl, rfl, rfl⟩
theorem tx_bts (T : Tx) (f : Nat → Int32) : ∃ y, T.w_bytes f = y ∧ y.bytes = f ∧ y.length = T.length := ⟨_, rfl, rfl, rfl⟩
theorem tx_len (T : Tx) (x : Int32) : ∃ y, T.w_length x = y ∧ y.bytes = T.bytes ∧ y.length = x := ⟨_, rfl, rfl, rfl⟩
/-- one byte -/
theorem c64s (hT : TX b len T) (x s : Int32) (hs : ¬ s < 0) (h4 : len + cn [bq x s] ≤ 400) : ∃ T', G_64_3 x (s, T) = some (.inl (s + (-8), T')) ∧ TX (ap [bq x s] b len).1 (ap [bq x s] b len).2 T' := by
  have h256 := bq_lt x s
  obtain ⟨t1, t2, t3⟩ := hT
  simp only [G_64_3, J_64_3_j49]
  rw [if_neg hs, bq_n]
  unfold cn cn at h4
  unfold ap ap
  by_cases h : bq x s = 0
  · rw [if_pos (by rw [h]; rfl), if_pos h]
    exact ⟨T, rfl, t1, t2, t3⟩
  · rw [if_neg (nI_ne0 (by omega) (by omega)), if_neg h, t1, show (400 : Int32) = nI 400 from rfl, if_neg (nI_ge (by rw [if_neg h] at h4; omega) (by omega)), ixn (by rw [if_neg h] at h4; omega) (by omega), Option.bind_some]
    obtain ⟨Y, hY, y1, y2⟩ := tx_bts T (upd T.bytes len (nI (bq x s)))
    obtain ⟨Z, hZ, z1', z2'⟩ := tx_len Y (Y.length + 1)
    rw [hY, Option.bind_some, hZ, Option.bind_some]
    refine ⟨Z, rfl, by rw [z2', y2, t1, z1, nI_add], by rw [if_neg h] at h4; omega, fun i hi => ?_⟩
    rw [z1', y1]
    show upd T.bytes len (nI (bq x s)) i = nI (if i = len then bq x s else b i) ∧ (if i = len then bq x s else b i) < 256
    by_cases q : i = len
    · subst q
      rw [pk_us, if_pos rfl]
      exact ⟨rfl, h256⟩
    · rw [pk_un q, if_neg q]
      exact t3 i (by omega)
theorem c64 (hT : TX b len T) (x : Int32) (h4 : len + cn (b4 x) ≤ 400) : ∃ T', F_64 T x = some T' ∧ TX (ap (b4 x) b len).1 (ap (b4 x) b len).2 T' := by
  have g1 : b4 x = [bq x 24] ++ ([bq x 16] ++ ([bq x 8] ++ [bq x 0])) := rfl
  rw [g1] at h4 ⊢
  rw [cn_app, cn_app, cn_app] at h4
  obtain ⟨A, a1, a2⟩ := c64s hT x 24 (by decide) (by omega)
  obtain ⟨B, b1, b2⟩ := c64s a2 x 16 (by decide) (by rw [ap_len]; omega)
  obtain ⟨C, c1, c2⟩ := c64s b2 x 8 (by decide) (by rw [ap_len, ap_len]; omega)
  obtain ⟨D, d1, d2⟩ := c64s c2 x 0 (by decide) (by rw [ap_len, ap_len, ap_len]; omega)
  refine ⟨D, ?_, ?_⟩
  · unfold F_64
    have e : lw (G_64_3 x) 200000 (24, T) = some D := by
      refine (lw_one (k := 199999) a1).trans ?_
      rw [show (24 + (-8) : Int32) = 16 by decide]
      refine (lw_one (k := 199998) b1).trans ?_
      rw [show (16 + (-8) : Int32) = 8 by decide]
      refine (lw_one (k := 199997) c1).trans ?_
      rw [show (8 + (-8) : Int32) = 0 by decide]
      refine (lw_one (k := 199996) d1).trans ?_
      refine lw_end (k := 199995) ?_
      simp only [G_64_3]
      rw [if_pos (by decide)]
    rw [e]
    rfl
  · rw [ap_app, ap_app, ap_app]
    exact d2
end AP
section TXT
variable {b : Nat → Nat} {len k : Nat} {W : Wd}
def l20 (x1 x2 x3 x4 x5 : Int32) : List Nat := b4 x1 ++ (b4 x2 ++ (b4 x3 ++ (b4 x4 ++ b4 x5)))
theorem l20_le (x1 x2 x3 x4 x5 : Int32) : cn (l20 x1 x2 x3 x4 x5) ≤ 20 := cn_le _
theorem c80 (hT : TX b len W.inp) (x1 x2 x3 x4 x5 : Int32) : (len + cn (l20 x1 x2 x3 x4 x5) ≤ 400 ∧ ∃ o, F_80 W x1 x2 x3 x4 x5 = some (.inl (nI (len + cn (l20 x1 x2 x3 x4 x5))), W.w_inp o) ∧ TX (ap (l20 x1 x2 x3 x4 x5) b len).1 (len + cn (l20 x1 x2 x3 x4 x5)) o) ∨ (400 < len + cn (l20 x1 x2 x3 x4 x5) ∧ F_80 W x1 x2 x3 x4 x5 = some (.inr 0, W.thr)) := by
  have hl := l20_le x1 x2 x3 x4 x5
  have h4 := hT.2.1
  have ec : cn (l20 x1 x2 x3 x4 x5) = cn (b4 x1) + cn (b4 x2) + cn (b4 x3) + cn (b4 x4) + cn (b4 x5) := by
    unfold l20
    rw [cn_app, cn_app, cn_app, cn_app]
    omega
  have e0 : W.inp.length + ((((nI (cn (b4 x1)) + nI (cn (b4 x2))) + nI (cn (b4 x3))) + nI (cn (b4 x4))) + nI (cn (b4 x5))) = nI (len + cn (l20 x1 x2 x3 x4 x5)) := by
    rw [hT.1, nI_add, nI_add, nI_add, nI_add, nI_add, ec]
  by_cases h : len + cn (l20 x1 x2 x3 x4 x5) ≤ 400
  · left
    obtain ⟨A, a1, a2⟩ := c64 hT x1 (by omega)
    obtain ⟨B, b1, b2⟩ := c64 a2 x2 (by rw [ap_len]; omega)
    obtain ⟨C, c1, c2⟩ := c64 b2 x3 (by rw [ap_len, ap_len]; omega)
    obtain ⟨D, d1, d2⟩ := c64 c2 x4 (by rw [ap_len, ap_len, ap_len]; omega)
    obtain ⟨E, e1, e2⟩ := c64 d2 x5 (by rw [ap_len, ap_len, ap_len, ap_len]; omega)
    have e3 : TX (ap (l20 x1 x2 x3 x4 x5) b len).1 (ap (l20 x1 x2 x3 x4 x5) b len).2 E := by
      unfold l20
      rw [ap_app, ap_app, ap_app, ap_app]
      exact e2
    rw [ap_len] at e3
    refine ⟨h, E, ?_, e3⟩
    unfold F_80
    rw [c63, Option.bind_some, c63, Option.bind_some, c63, Option.bind_some, c63, Option.bind_some, c63, Option.bind_some, e0, show (400 : Int32) = nI 400 from rfl, if_pos (nI_le h (by decide)), a1, Option.bind_some, Option.bind_some]
    rw [show (W.w_inp A).inp = A from rfl, b1, Option.bind_some, Option.bind_some, show ((W.w_inp A).w_inp B) = W.w_inp B from rfl]
    rw [show (W.w_inp B).inp = B from rfl, c1, Option.bind_some, Option.bind_some, show ((W.w_inp B).w_inp C) = W.w_inp C from rfl]
    rw [show (W.w_inp C).inp = C from rfl, d1, Option.bind_some, Option.bind_some, show ((W.w_inp C).w_inp D) = W.w_inp D from rfl]
    rw [show (W.w_inp D).inp = D from rfl, e1, Option.bind_some, Option.bind_some, show ((W.w_inp D).w_inp E) = W.w_inp E from rfl]
    show some (Sum.inl E.length, W.w_inp E) = _
    rw [e3.1]
  · right
    refine ⟨by omega, ?_⟩
    unfold F_80
    rw [c63, Option.bind_some, c63, Option.bind_some, c63, Option.bind_some, c63, Option.bind_some, c63, Option.bind_some, e0, show (400 : Int32) = nI 400 from rfl, if_neg (nI_ge (by omega) (by omega))]
end TXT
section LD
variable {k : Nat} {W : Wd}
/-- a copy of what was read -/
theorem c2p (B O : Bd) : ∃ B', F_2 B O = some B' ∧ (∀ n E, CB n E O → CB n E B') ∧ (∀ pl, CP pl O → CP pl B') ∧ (∀ n sc tg wt pr, n ≤ 6 → sc ≤ 6 → CS n sc tg wt pr O → CS n sc tg wt pr B') ∧ B'.moveCount = O.moveCount := by
  refine ⟨_, rfl, fun n E a1 => ⟨a1.1, a1.2⟩, fun pl a2 v hv => ?_, fun n sc tg wt pr h6 s6 a3 => ⟨a3.1, fun k hk => ⟨?_, fun v hv => ⟨?_, ?_⟩⟩⟩, rfl⟩
  · show va_cpy O.pile B.pile 0 0 6 v = _
    unfold va_cpy
    rw [if_pos ⟨Nat.zero_le _, by omega⟩, Nat.zero_add, Nat.sub_zero]
    exact a2 v hv
  · show va_cpy O.targets B.targets 0 0 6 k = _
    unfold va_cpy
    rw [if_pos ⟨Nat.zero_le _, by omega⟩, Nat.zero_add, Nat.sub_zero]
    exact (a3.2 k hk).1
  · show va_cpy O.weights B.weights 0 0 36 (6 * k + v) = _
    unfold va_cpy
    rw [if_pos ⟨Nat.zero_le _, by omega⟩, Nat.zero_add, Nat.sub_zero]
    exact ((a3.2 k hk).2 v hv).1
  · show va_cpy O.parents B.parents 0 0 36 (6 * k + v) = _
    unfold va_cpy
    rw [if_pos ⟨Nat.zero_le _, by omega⟩, Nat.zero_add, Nat.sub_zero]
    exact ((a3.2 k hk).2 v hv).2
end LD
