/-! ===== THE MODEL'S GRAPH ===== -/
def MR (n E : Nat) (R : Nat → Int32) : Prop := R 0 = nI n ∧ ∀ v, v < 6 → R (1 + v) = nI (nb E v)
def MP (p : Nat → Nat) (R : Nat → Int32) : Prop := ∀ v, v < 6 → R (7 + v) = nI (p v)
theorem i1a (v : Nat) : (1 : Int32) + nI v = nI (1 + v) := nI_add 1 v
theorem i7a (v : Nat) : (7 : Int32) + nI v = nI (7 + v) := nI_add 7 v
theorem l_lt0 {x y : Int64} : lg_cmp x y < 0 ↔ x < y := by
  unfold lg_cmp
  by_cases h1 : x > y
  · rw [if_pos h1]
    refine ⟨fun h => absurd h (by decide), fun h => ?_⟩
    rw [fa_lt64] at h
    have h2 : y < x := h1
    rw [fa_lt64] at h2
    omega
  · rw [if_neg h1]
    by_cases h2 : x = y
    · rw [if_pos h2]
      subst h2
      exact ⟨fun h => absurd h (by decide), fun h => by rw [fa_lt64] at h; omega⟩
    · rw [if_neg h2]
      refine ⟨fun _ => ?_, fun _ => by decide⟩
      have h3 : ¬ y < x := h1
      rw [fa_lt64] at h3 ⊢
      rw [fa_eq64] at h2
      omega
theorem l_gt0 {x y : Int64} : 0 < lg_cmp x y ↔ y < x := by
  unfold lg_cmp
  by_cases h1 : x > y
  · rw [if_pos h1]; exact ⟨fun _ => h1, fun _ => by decide⟩
  · rw [if_neg h1]
    by_cases h2 : x = y
    · rw [if_pos h2]; exact ⟨fun h => absurd h (by decide), fun h => absurd h h1⟩
    · rw [if_neg h2]; exact ⟨fun h => absurd h (by decide), fun h => absurd h h1⟩
/-- a vertex or not -/
def isv (n : Nat) (x : Int32) : Bool := decide (0 ≤ x ∧ x < nI n)
theorem isv_t {n v : Nat} (h : v < n) (hn : n < 2 ^ 31) : isv n (nI v) = true := decide_eq_true ⟨nI_pos' (by omega), nI_lt h hn⟩
theorem isv_of {n : Nat} {x : Int32} (hn : n < 2 ^ 31) (h : isv n x = true) : ∃ v, v < n ∧ x = nI v := by
  have h1 := of_decide_eq_true h
  rcases pk_ix x hn with h2 | h2 | h2
  · rw [fa_lt] at h2; have := h1.1; rw [fa_le] at this; omega
  · have := h1.2; rw [fa_lt] at this; rw [fa_le] at h2; omega
  · exact h2
theorem m_le {n : Nat} {x : Int32} (h0 : 0 < n) (hn : n < 2 ^ 31) : x ≤ nI n - 1 ↔ x < nI n := by
  rw [z1, pk_sub h0, fa_le, fa_lt, nI_toInt (by omega), nI_toInt hn]
  omega
