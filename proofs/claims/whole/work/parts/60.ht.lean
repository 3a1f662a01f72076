/-! ===== A TABLE OF OPEN ADDRESSES ===== -/
theorem least {P : Nat → Prop} [DecidablePred P] : ∀ {m : Nat}, (∃ d, d < m ∧ P d) → ∃ d, d < m ∧ P d ∧ ∀ e, e < d → ¬ P e
  | 0, h => by obtain ⟨d, hd, _⟩ := h; omega
  | m + 1, h => by
    by_cases k : ∃ d, d < m ∧ P d
    · obtain ⟨d, a, b, c⟩ := least k
      exact ⟨d, by omega, b, c⟩
    · obtain ⟨d, a, b⟩ := h
      refine ⟨d, a, b, fun e he hP => k ⟨e, by omega, hP⟩⟩
def HT (M : Nat) (h : Nat → Nat) (S : Nat → Nat) (K : List Nat) : Prop :=
  (∀ j, j < M → S j = 0 ∨ ∃ x, x ∈ K ∧ S j = x + 1) ∧
  (∀ x, x ∈ K → ∃ d, d < M ∧ S ((h x + d) % M) = x + 1 ∧ ∀ e, e < d → ¬ S ((h x + e) % M) = 0) ∧
  fb_ct (fun j => decide (¬ S j = 0)) M ≤ K.length
theorem fb_room {P : Nat → Bool} : ∀ {n : Nat}, fb_ct P n < n → ∃ j, j < n ∧ P j = false
  | 0, h => absurd h (Nat.not_lt_zero _)
  | n + 1, h => by
    cases hP : P n with
    | false => exact ⟨n, by omega, hP⟩
    | true =>
      rw [fb_ct_succ, hP, if_pos rfl] at h
      obtain ⟨j, a, b⟩ := fb_room (P := P) (n := n) (by omega)
      exact ⟨j, by omega, b⟩
theorem HT.nil {M : Nat} {h S : Nat → Nat} (h0 : ∀ j, j < M → S j = 0) : HT M h S [] := by
  refine ⟨fun j hj => .inl (h0 j hj), fun x hx => absurd hx List.not_mem_nil, ?_⟩
  have : ∀ m, m ≤ M → fb_ct (fun j => decide (¬ S j = 0)) m = 0 := fun m hm => by
    induction m with
    | zero => rfl
    | succ m ih => rw [fb_ct_succ, ih (by omega), h0 m (by omega)]; rfl
  rw [this M (Nat.le_refl _)]
  exact Nat.zero_le _
theorem HT.find {M : Nat} {h S : Nat → Nat} {K : List Nat} (hT : HT M h S K) (hK : K.length < M) (x : Nat) :
    ∃ d, d < M ∧ (∀ e, e < d → ¬ S ((h x + e) % M) = 0 ∧ ¬ S ((h x + e) % M) = x + 1) ∧ ((x ∈ K ∧ S ((h x + d) % M) = x + 1) ∨ (¬ x ∈ K ∧ S ((h x + d) % M) = 0)) := by
  obtain ⟨a, b, c⟩ := hT
  have ex : ∃ d, d < M ∧ (S ((h x + d) % M) = 0 ∨ S ((h x + d) % M) = x + 1) := by
    obtain ⟨j, hj, h0⟩ := fb_room (P := fun j => decide (¬ S j = 0)) (n := M) (by omega)
    have h1 : S j = 0 := by
      have := of_decide_eq_false h0
      omega
    refine ⟨(j + (M - h x % M)) % M, Nat.mod_lt _ (by omega), .inl ?_⟩
    have hx := Nat.mod_lt (h x) (show 0 < M by omega)
    have e : (h x + (j + (M - h x % M)) % M) % M = j := by
      rw [Nat.add_mod, Nat.mod_mod, ← Nat.add_mod, Nat.add_mod]
      rw [Nat.add_mod_eq_ite, Nat.mod_mod, Nat.mod_mod]
      have q : (j + (M - h x % M)) % M = if j < h x % M then j + (M - h x % M) else j - h x % M := by
        split
        · exact Nat.mod_eq_of_lt (by omega)
        · rw [show j + (M - h x % M) = j - h x % M + M by omega, Nat.add_mod_right]
          exact Nat.mod_eq_of_lt (by omega)
      rw [q]
      split <;> split <;> omega
    rw [e]; exact h1
  obtain ⟨d, d1, d2, d3⟩ := least ex
  refine ⟨d, d1, fun e he => ⟨fun q => d3 e he (.inl q), fun q => d3 e he (.inr q)⟩, ?_⟩
  rcases d2 with q | q
  · refine .inr ⟨fun hx => ?_, q⟩
    obtain ⟨d0, e1, e2, e3⟩ := b x hx
    rcases Nat.lt_trichotomy d d0 with k | k | k
    · exact e3 d k q
    · subst k; omega
    · exact d3 d0 k (.inr e2)
  · refine .inl ⟨?_, q⟩
    rcases a ((h x + d) % M) (Nat.mod_lt _ (by omega)) with k | ⟨y, hy, k⟩
    · omega
    · obtain rfl : x = y := by omega
      exact hy
theorem HT.ins {M : Nat} {h S : Nat → Nat} {K : List Nat} (hT : HT M h S K) {x d : Nat} (hd : d < M) (h0 : S ((h x + d) % M) = 0) (hb : ∀ e, e < d → ¬ S ((h x + e) % M) = 0) :
    HT M h (fun j => if j = (h x + d) % M then x + 1 else S j) (K ++ [x]) := by
  obtain ⟨a, b, c⟩ := hT
  have hj : (h x + d) % M < M := Nat.mod_lt _ (by omega)
  generalize hg : (h x + d) % M = g at *
  have nz : ∀ j, ¬ S j = 0 → ¬ j = g := fun j h1 h2 => by subst h2; exact h1 h0
  refine ⟨fun j hj => ?_, fun y hy => ?_, ?_⟩
  · by_cases q : j = g
    · exact .inr ⟨x, List.mem_append_right _ (List.mem_singleton.2 rfl), if_pos q⟩
    · rcases a j hj with k | ⟨y, k1, k2⟩
      · exact .inl ((if_neg q).trans k)
      · exact .inr ⟨y, List.mem_append_left _ k1, (if_neg q).trans k2⟩
  · rcases List.mem_append.1 hy with k | k
    · obtain ⟨d0, e1, e2, e3⟩ := b y k
      refine ⟨d0, e1, (if_neg (nz _ (by omega))).trans e2, fun e he q => e3 e he ((if_neg (nz _ (e3 e he))).symm.trans q)⟩
    · rw [List.mem_singleton] at k
      subst k
      refine ⟨d, hd, if_pos hg, fun e he q => hb e he ((if_neg (nz _ (hb e he))).symm.trans q)⟩
  · have k := fb_ct_upd (fun j => decide (¬ S j = 0)) true hj
    have e : (fun j => decide (¬ (if j = g then x + 1 else S j) = 0)) = (fun k => if k = g then true else decide (¬ S k = 0)) := by
      funext j
      by_cases q : j = g
      · rw [if_pos q, if_pos q]; rfl
      · rw [if_neg q, if_neg q]
    rw [e, List.length_append]
    rw [if_pos rfl] at k
    show _ ≤ K.length + 1
    omega
/-! hashes -/
theorem nI_toNat (x : Int32) : nI x.toBitVec.toNat = x := Int32.toBitVec_inj.1 (BitVec.eq_of_toNat_eq (Nat.mod_eq_of_lt x.toBitVec.isLt))
/-- the class's hash -/
def h1 (x : Nat) : Nat := (nI x * (2654435761 : Int32)).toBitVec.toNat / 2 ^ 18
theorem h1_ok (x : Nat) : ushr (nI x * (2654435761 : Int32)) 18 = nI (h1 x) := by
  have := pk_ushrN (n := (nI x * (2654435761 : Int32)).toBitVec.toNat) (nI x * (2654435761 : Int32)).toBitVec.isLt 18 18 (by decide +kernel)
  rw [nI_toNat] at this
  exact this
theorem h1_lt (x : Nat) : h1 x < 16384 := by
  have := (nI x * (2654435761 : Int32)).toBitVec.isLt
  unfold h1
  omega
/-- the model's -/
def h2 (x : Nat) : Nat := (nI x * (40503 : Int32)).toBitVec.toNat / 2 ^ 4 % 131072
theorem h2_ok (x : Nat) : (ushr (nI x * (40503 : Int32)) 4) - (ushr (nI x * (40503 : Int32)) 4) / (131072 : Int32) * (131072 : Int32) = nI (h2 x) := by
  have := pk_ushrN (n := (nI x * (40503 : Int32)).toBitVec.toNat) (nI x * (40503 : Int32)).toBitVec.isLt 4 4 (by decide +kernel)
  rw [nI_toNat] at this
  have hl := (nI x * (40503 : Int32)).toBitVec.isLt
  have e : ushr (nI x * (40503 : Int32)) 4 = nI ((nI x * (40503 : Int32)).toBitVec.toNat / 2 ^ 4) := this
  rw [e, show (131072 : Int32) = nI 131072 from rfl, pk_rem (by omega) (by decide) (by decide)]
  rfl
theorem h2_lt (x : Nat) : h2 x < 131072 := Nat.mod_lt _ (by decide)
