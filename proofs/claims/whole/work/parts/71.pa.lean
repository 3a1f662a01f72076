/-! ===== THE SETUP TEXT: runs of bytes ===== -/
/-- where a run of bytes from `lo` to `hi` ends; `f` bytes are left -/
def run (b : Nat → Nat) (lo hi : Nat) : Nat → Nat → Nat
  | 0, i => i
  | f + 1, i => if lo ≤ b i ∧ b i ≤ hi then run b lo hi f (i + 1) else i
theorem run_le (b : Nat → Nat) (lo hi : Nat) : ∀ f i, i ≤ run b lo hi f i ∧ run b lo hi f i ≤ i + f
  | 0, i => ⟨Nat.le_refl _, Nat.le_refl _⟩
  | f + 1, i => by
    have := run_le b lo hi f (i + 1)
    rw [run]
    split <;> omega
/-- the text: its bytes and its length -/
def TX (b : Nat → Nat) (len : Nat) (T : Tx) : Prop := T.length = nI len ∧ len ≤ 400 ∧ ∀ i, i < len → T.bytes i = nI (b i) ∧ b i < 256
def MX (b : Nat → Nat) (len : Nat) (M : Md) : Prop := M.length = nI len ∧ len ≤ 400 ∧ ∀ i, i < len → M.buffer i = nI (b i) ∧ b i < 256
section PARSE
variable {b : Nat → Nat} {len : Nat} {T : Tx} {M : Md}
theorem c65l (hT : TX b len T) {lo hi : Nat} (hlo : lo < 256) (hhi : hi < 256) : ∀ (f i k : Nat), i + f = len → f < k → lw (G_65_5 T (nI lo) (nI hi)) k (nI i) = some (nI (run b lo hi f i))
  | 0, i, k, h, hk => by
    obtain ⟨m, rfl⟩ : ∃ m, k = m + 1 := ⟨k - 1, by omega⟩
    have h4 := hT.2.1
    refine lw_end ?_
    simp only [G_65_5]
    rw [hT.1, if_pos (nI_le (by omega) (by omega))]
    rfl
  | f + 1, i, k, h, hk => by
    obtain ⟨m, rfl⟩ : ∃ m, k = m + 1 := ⟨k - 1, by omega⟩
    have h4 := hT.2.1
    obtain ⟨e1, e2⟩ := hT.2.2 i (by omega)
    by_cases q1 : lo ≤ b i
    · by_cases q2 : b i ≤ hi
      · rw [run, if_pos ⟨q1, q2⟩, ← c65l hT hlo hhi f (i + 1) m (by omega) (by omega)]
        refine lw_one ?_
        simp only [G_65_5]
        rw [hT.1, if_neg (nI_ge (by omega) (by omega)), ixn (by omega) (by decide), Option.bind_some, e1, if_neg (nI_nlt q1 (by omega)), if_neg (nI_nlt q2 (by omega)), nI_1]
      · rw [run, if_neg (fun z => q2 z.2)]
        refine lw_end ?_
        simp only [G_65_5]
        rw [hT.1, if_neg (nI_ge (by omega) (by omega)), ixn (by omega) (by decide), Option.bind_some, e1, if_neg (nI_nlt q1 (by omega)), if_pos (nI_lt (by omega) (by omega))]
    · rw [run, if_neg (fun z => q1 z.1)]
      refine lw_end ?_
      simp only [G_65_5]
      rw [hT.1, if_neg (nI_ge (by omega) (by omega)), ixn (by omega) (by decide), Option.bind_some, e1, if_pos (nI_lt (by omega) (by omega))]
theorem c65 (hT : TX b len T) {lo hi i : Nat} (hlo : lo < 256) (hhi : hi < 256) (hi' : i ≤ len) (hs : T.start = nI i) : F_65 T (nI lo) (nI hi) = some (nI (run b lo hi (len - i) i)) := by
  have h4 := hT.2.1
  unfold F_65
  rw [hs, c65l hT hlo hhi (len - i) i 200000 (by omega) (by omega), Option.bind_some]
  rfl
/-- a number read: `f` digits from `i` on -/
def nu (b : Nat → Nat) : Nat → Nat → Nat → Nat
  | 0, _, a => a
  | f + 1, i, a => nu b f (i + 1) (10 * a + b i - 48)
theorem c67l (hT : TX b len T) {e : Nat} (he : e ≤ len) (hs : T.stop = nI e) : ∀ (f i a k : Nat), i + f = e → f < k → (∀ j, i ≤ j → j < e → 48 ≤ b j) → lw (G_67_22 T) k (nI a, nI i) = some (nI (nu b f i a))
  | 0, i, a, k, h, hk, _ => by
    obtain ⟨m, rfl⟩ : ∃ m, k = m + 1 := ⟨k - 1, by omega⟩
    have h4 := hT.2.1
    refine lw_end ?_
    simp only [G_67_22]
    rw [hs, if_pos (nI_le (by omega) (by omega))]
    rfl
  | f + 1, i, a, k, h, hk, hd => by
    obtain ⟨m, rfl⟩ : ∃ m, k = m + 1 := ⟨k - 1, by omega⟩
    have h4 := hT.2.1
    obtain ⟨e1, e2⟩ := hT.2.2 i (by omega)
    have h48 := hd i (Nat.le_refl _) (by omega)
    rw [nu, ← c67l hT he hs f (i + 1) (10 * a + b i - 48) m (by omega) (by omega) (fun j h1 h2 => hd j (by omega) h2)]
    refine lw_one ?_
    simp only [G_67_22]
    rw [hs, if_neg (nI_ge (by omega) (by omega)), ixn (by omega) (by decide), Option.bind_some, e1, nI_1, z10, pk_mul, nI_add, show (48 : Int32) = nI 48 from rfl, pk_sub (by omega)]
/-- the model looks at a byte -/
theorem m141 (hM : MX b len M) {i : Nat} (hi : i ≤ 400) : F_141 M (nI i) = some (if i < len then nI (b i) else -1) := by
  have h4 := hM.2.1
  unfold F_141
  by_cases q : i < len
  · rw [hM.1, if_neg (nI_ge q (by omega)), ixn (by omega) (by decide), Option.bind_some, (hM.2.2 i q).1, if_pos q]
    rfl
  · rw [hM.1, if_pos (nI_le (by omega) (by omega)), if_neg q]
    rfl
theorem m142 {x : Nat} (hx : x < 256) : F_142 (nI x) = some (bI (decide (97 ≤ x ∧ x ≤ 122))) := by
  have : ∀ x, x < 256 → F_142 (nI x) = some (bI (decide (97 ≤ x ∧ x ≤ 122))) := by decide +kernel
  exact this x hx
theorem m143 {x : Nat} (hx : x < 256) : F_143 (nI x) = some (bI (decide (48 ≤ x ∧ x ≤ 57))) := by
  have : ∀ x, x < 256 → F_143 (nI x) = some (bI (decide (48 ≤ x ∧ x ≤ 57))) := by decide +kernel
  exact this x hx
theorem m142n : F_142 (-1) = some 0 := by decide +kernel
theorem m143n : F_143 (-1) = some 0 := by decide +kernel
end PARSE
