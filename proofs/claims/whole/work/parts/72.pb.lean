/-! ===== THE SETUP TEXT: the class's token ===== -/
/-- the token behind `p`: its start, the end of its letters and digits, its kind, its stop -/
def tS (b : Nat → Nat) (len p : Nat) : Nat := run b 32 32 (len - p) p
def tA (b : Nat → Nat) (len p : Nat) : Nat := run b 97 122 (len - tS b len p) (tS b len p)
def tD (b : Nat → Nat) (len p : Nat) : Nat := run b 48 57 (len - tS b len p) (tS b len p)
def tK (b : Nat → Nat) (len p : Nat) : Nat := if tS b len p < len then (if tS b len p < tA b len p then 1 else if tS b len p < tD b len p then 2 else 3) else 0
def tE (b : Nat → Nat) (len p : Nat) : Nat := if tK b len p = 3 then tS b len p + 1 else max (tA b len p) (tD b len p)
/-- a number's value, cut at 10000 where it has more than 3 digits -/
def tN (b : Nat → Nat) (len p : Nat) : Nat := nu b (tE b len p - tS b len p) (tS b len p) 0
section PARSE
variable {b : Nat → Nat} {len : Nat} {T : Tx} {M : Md}
theorem tS_le {p : Nat} (hp : p ≤ len) : p ≤ tS b len p ∧ tS b len p ≤ len := by
  have := run_le b 32 32 (len - p) p
  unfold tS
  omega
theorem tA_le {p : Nat} (hp : p ≤ len) : tS b len p ≤ tA b len p ∧ tA b len p ≤ len := by
  have := run_le b 97 122 (len - tS b len p) (tS b len p)
  have := tS_le (b := b) hp
  unfold tA
  omega
theorem tD_le {p : Nat} (hp : p ≤ len) : tS b len p ≤ tD b len p ∧ tD b len p ≤ len := by
  have := run_le b 48 57 (len - tS b len p) (tS b len p)
  have := tS_le (b := b) hp
  unfold tD
  omega
theorem tE_le {p : Nat} (hp : p ≤ len) : tS b len p ≤ tE b len p ∧ tE b len p ≤ len := by
  have h1 := tA_le (b := b) hp
  have h2 := tD_le (b := b) hp
  have h3 := tS_le (b := b) hp
  unfold tE
  split
  · rename_i q
    unfold tK at q
    by_cases z : tS b len p < len
    · omega
    · rw [if_neg z] at q; omega
  · omega
theorem run_in {b : Nat → Nat} {lo hi : Nat} : ∀ (f i j : Nat), i ≤ j → j < run b lo hi f i → lo ≤ b j ∧ b j ≤ hi
  | 0, i, j, h1, h2 => by rw [run] at h2; omega
  | f + 1, i, j, h1, h2 => by
    rw [run] at h2
    by_cases q : lo ≤ b i ∧ b i ≤ hi
    · rw [if_pos q] at h2
      by_cases w : i = j
      · subst w; exact q
      · exact run_in f (i + 1) j (by omega) h2
    · rw [if_neg q] at h2; omega
/-- letters and digits don't both begin -/
theorem tAD {p : Nat} : ¬ (tS b len p < tA b len p ∧ tS b len p < tD b len p) := fun ⟨h1, h2⟩ => by
  have a := run_in _ _ _ (Nat.le_refl _) h1
  have d := run_in _ _ _ (Nat.le_refl _) h2
  omega
def TF (T T' : Tx) : Prop := T'.length = T.length ∧ T'.bytes = T.bytes ∧ T'.draft = T.draft
theorem TF.rf (T : Tx) : TF T T := ⟨rfl, rfl, rfl⟩
theorem TF.tr {A B C : Tx} (h : TF A B) (k : TF B C) : TF A C := ⟨k.1.trans h.1, k.2.1.trans h.2.1, k.2.2.trans h.2.2⟩
theorem TX.of {T T' : Tx} (h : TX b len T) (k : TF T T') : TX b len T' := ⟨k.1.trans h.1, h.2.1, fun i hi => by rw [k.2.1]; exact h.2.2 i hi⟩
theorem tx_start (T : Tx) (x : Int32) : ∃ y, T.w_start x = y ∧ y.start = x ∧ y.stop = T.stop ∧ y.kind = T.kind ∧ y.value = T.value ∧ TF T y := ⟨_, rfl, rfl, rfl, rfl, rfl, rfl, rfl, rfl⟩
theorem tx_stop (T : Tx) (x : Int32) : ∃ y, T.w_stop x = y ∧ y.start = T.start ∧ y.stop = x ∧ y.kind = T.kind ∧ y.value = T.value ∧ TF T y := ⟨_, rfl, rfl, rfl, rfl, rfl, rfl, rfl, rfl⟩
theorem tx_kind (T : Tx) (x : Int32) : ∃ y, T.w_kind x = y ∧ y.start = T.start ∧ y.stop = T.stop ∧ y.kind = x ∧ y.value = T.value ∧ TF T y := ⟨_, rfl, rfl, rfl, rfl, rfl, rfl, rfl, rfl⟩
theorem tx_value (T : Tx) (x : Int32) : ∃ y, T.w_value x = y ∧ y.start = T.start ∧ y.stop = T.stop ∧ y.kind = T.kind ∧ y.value = x ∧ TF T y := ⟨_, rfl, rfl, rfl, rfl, rfl, rfl, rfl, rfl⟩
/-- the class stands at the token behind `p` -/
def CT (b : Nat → Nat) (len p : Nat) (T : Tx) : Prop := T.start = nI (tS b len p) ∧ T.stop = nI (tE b len p) ∧ T.kind = nI (tK b len p) ∧ (tK b len p = 2 → T.value = if tE b len p - tS b len p ≤ 3 then nI (tN b len p) else -1) ∧ (tK b len p = 3 → T.value = nI (b (tS b len p)))
theorem c66 (hT : TX b len T) {p : Nat} (hp : p ≤ len) (hs : T.stop = nI p) : ∃ T', F_66 T = some T' ∧ CT b len p T' ∧ TF T T' := by
  have h4 := hT.2.1
  have k1 := tS_le (b := b) hp
  have k2 := tA_le (b := b) hp
  have k3 := tD_le (b := b) hp
  have k4 := tE_le (b := b) hp
  have k5 := tAD (b := b) (len := len) (p := p)
  obtain ⟨A, hA, a1, a2, a3, a4, a5⟩ := tx_start T T.stop
  obtain ⟨B, hB, b1, b2, b3, b4, b5⟩ := tx_start A (nI (tS b len p))
  have fB := a5.tr b5
  have e1 : F_65 A 32 32 = some (nI (tS b len p)) := c65 (lo := 32) (hi := 32) (hT.of a5) (by decide) (by decide) hp (a1.trans hs)
  have e2 : F_65 B 97 122 = some (nI (tA b len p)) := c65 (lo := 97) (hi := 122) (hT.of fB) (by decide) (by decide) k1.2 b1
  have e3 : F_65 B 48 57 = some (nI (tD b len p)) := c65 (lo := 48) (hi := 57) (hT.of fB) (by decide) (by decide) k1.2 b1
  obtain ⟨C, hC, c1, c2, c3, c4, c5⟩ := tx_stop B (imx (nI (tA b len p)) (nI (tD b len p)))
  rw [imx_n (by omega) (by omega)] at c2
  have fC := fB.tr c5
  have sC : C.start = nI (tS b len p) := c1.trans b1
  have lC : C.length = nI len := fC.1.trans hT.1
  unfold F_66
  rw [hA, Option.bind_some, e1, Option.bind_some, hB, Option.bind_some, e2, Option.bind_some, e3, Option.bind_some, hC, Option.bind_some, sC, lC]
  by_cases q : tS b len p < len
  · rw [if_pos (nI_lt q (by omega))]
    by_cases q1 : tS b len p < tA b len p
    · obtain ⟨D, hD, d1, d2, d3, d4, d5⟩ := tx_kind C 1
      have hk : tK b len p = 1 := by unfold tK; rw [if_pos q, if_pos q1]
      have he : tE b len p = max (tA b len p) (tD b len p) := by unfold tE; rw [if_neg (by omega)]
      rw [if_neg (nI_ge q1 (by omega)), hD, Option.bind_some]
      exact ⟨D, rfl, ⟨d1.trans sC, by rw [d2, c2, he], by rw [d3, hk]; rfl, fun z => by omega, fun z => by omega⟩, fC.tr d5⟩
    · rw [if_pos (nI_le (by omega) (by omega))]
      by_cases q2 : tS b len p < tD b len p
      · obtain ⟨D, hD, d1, d2, d3, d4, d5⟩ := tx_kind C 2
        have hk : tK b len p = 2 := by unfold tK; rw [if_pos q, if_neg q1, if_pos q2]
        have he : tE b len p = max (tA b len p) (tD b len p) := by unfold tE; rw [if_neg (by omega)]
        have eD : D.stop = nI (tE b len p) := by rw [d2, c2, he]
        have sD : D.start = nI (tS b len p) := d1.trans sC
        have he2 : tE b len p = tD b len p := by omega
        have num : F_67 D = some (if tE b len p - tS b len p ≤ 3 then nI (tN b len p) else -1) := by
          unfold F_67
          rw [eD, sD, pk_sub k4.1]
          by_cases w : tE b len p - tS b len p ≤ 3
          · rw [z3, if_pos (nI_le w (by omega)), if_pos w]
            have := c67l (hT.of (fC.tr d5)) k4.2 eD (tE b len p - tS b len p) (tS b len p) 0 200000 (by omega) (by omega) (fun j h1 h2 => (run_in (b := b) (lo := 48) (hi := 57) _ _ j h1 (by rw [he2] at h2; exact h2)).1)
            rw [nI_0] at this
            rw [this]
            rfl
          · rw [z3, if_neg (nI_ge (by omega) (by omega)), if_neg w]
        obtain ⟨V, hV, v1, v2, v3, v4, v5⟩ := tx_value D (if tE b len p - tS b len p ≤ 3 then nI (tN b len p) else -1)
        rw [if_neg (nI_ge q2 (by omega)), hD, Option.bind_some, num, Option.bind_some, hV, Option.bind_some]
        exact ⟨V, rfl, ⟨v1.trans sD, v2.trans eD, by rw [v3, d3, hk]; rfl, fun _ => v4, fun z => by omega⟩, (fC.tr d5).tr v5⟩
      · obtain ⟨D, hD, d1, d2, d3, d4, d5⟩ := tx_kind C 3
        have hk : tK b len p = 3 := by unfold tK; rw [if_pos q, if_neg q1, if_neg q2]
        have he : tE b len p = tS b len p + 1 := by unfold tE; rw [if_pos hk]
        have sD : D.start = nI (tS b len p) := d1.trans sC
        have bD := ((hT.of (fC.tr d5)).2.2 _ q).1
        obtain ⟨V, hV, v1, v2, v3, v4, v5⟩ := tx_value D (nI (b (tS b len p)))
        obtain ⟨X, hX, w1, w2, w3, w4, w5⟩ := tx_stop V (nI (tS b len p + 1))
        rw [if_pos (nI_le (by omega) (by omega)), hD, Option.bind_some, sD, ixn (by omega) (by decide), Option.bind_some, bD, hV, Option.bind_some, v1, sD, nI_1, hX, Option.bind_some]
        exact ⟨X, rfl, ⟨w1.trans (v1.trans sD), by rw [w2, he], by rw [w3, v3, d3, hk]; rfl, fun z => by omega, fun _ => w4.trans v4⟩, ((fC.tr d5).tr v5).tr w5⟩
  · obtain ⟨D, hD, d1, d2, d3, d4, d5⟩ := tx_kind C 0
    have hk : tK b len p = 0 := by unfold tK; rw [if_neg q]
    have he : tE b len p = max (tA b len p) (tD b len p) := by unfold tE; rw [if_neg (by omega)]
    rw [if_neg (nI_nlt (by omega) (by omega)), hD, Option.bind_some]
    exact ⟨D, rfl, ⟨d1.trans sC, by rw [d2, c2, he], by rw [d3, hk]; rfl, fun z => by omega, fun z => by omega⟩, fC.tr d5⟩
end PARSE
