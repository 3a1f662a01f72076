/-! ===== THE SETUP TEXT: words and numbers ===== -/
theorem if_congr_dec {P : Prop} [Decidable P] {α : Type} (x y : α) : (if P then x else y) = if decide P = true then x else y := by
  by_cases q : P
  · rw [if_pos q, if_pos (decide_eq_true q)]
  · rw [if_neg q, if_neg (by rw [decide_eq_false q]; decide)]
section PARSE
variable {b : Nat → Nat} {len : Nat} {T : Tx} {M : Md}
theorem am_tx_len : ∀ k, k < 4 → (am_tx k).length < 400 := by decide +kernel
/-- the token is the word `k` -/
def wd (k : Nat) (b : Nat → Nat) (len p : Nat) : Bool := decide (tK b len p = 1) && decide (tE b len p - tS b len p = (am_tx k).length) && al (fun i => decide (nI (b (tS b len p + i)) = (am_tx k).getD i 0)) (am_tx k).length
theorem c68 (hT : TX b len T) {p k : Nat} (hk : k < 4) (hp : p ≤ len) (hC : CT b len p T) : F_68 k T = some (bI (wd k b len p)) := by
  have h4 := hT.2.1
  have k1 := tE_le (b := b) hp
  have kl := am_tx_len k hk
  have hk3 : tK b len p ≤ 3 := by unfold tK; split <;> (try split) <;> (try split) <;> omega
  unfold F_68
  rw [hC.2.2.1, hC.1, hC.2.1, pk_sub k1.1]
  by_cases q : tK b len p = 1
  · rw [if_neg (by rw [q]; exact fun z => z rfl)]
    by_cases q2 : tE b len p - tS b len p = (am_tx k).length
    · rw [if_pos (by rw [q2]; rfl)]
      have key := lw_all (f := G_68_28 k T) (P := fun i => decide (nI (b (tS b len p + i)) = (am_tx k).getD i 0)) (n := (am_tx k).length) (fun i hi => by
        simp only [G_68_28]
        rw [show Int32.ofNat (am_tx k).length = nI (am_tx k).length from rfl, if_neg (nI_ge hi (by omega)), hC.1, nI_add, ixn (by omega) (by decide), Option.bind_some, ixn hi (by omega), Option.bind_some, (hT.2.2 _ (by omega)).1, nI_1]
        exact if_congr_dec _ _) (by
        simp only [G_68_28]
        rw [show Int32.ofNat (am_tx k).length = nI (am_tx k).length from rfl, if_pos (nI_le (Nat.le_refl _) (by omega))]) (by omega)
      obtain ⟨r, hr, h⟩ := key
      rw [nI_0] at hr
      rw [hr, Option.bind_some]
      unfold wd
      rw [decide_eq_true q, decide_eq_true q2]
      rcases h with ⟨h1, rfl⟩ | ⟨h1, rfl⟩
      · rw [h1]; rfl
      · rw [h1]; rfl
    · rw [if_neg (by show ¬ nI _ = nI _; rw [nI_eq (by omega) (by omega)]; exact q2)]
      unfold wd
      rw [decide_eq_false q2, Bool.and_false, Bool.false_and]
      rfl
  · rw [if_pos (by rw [z1, nI_eq (by omega) (by omega)]; exact q)]
    unfold wd
    rw [decide_eq_false q, Bool.false_and, Bool.false_and]
    rfl
end PARSE
