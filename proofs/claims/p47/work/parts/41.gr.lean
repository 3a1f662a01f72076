/-! ===== GRAPHS: edges as the bits 6 u + v of a number; balls, rings, distances ===== -/
def ad (E u v : Nat) : Bool := E.testBit (6 * u + v)
def Gr (n E : Nat) : Prop := 1 ≤ n ∧ n ≤ 6 ∧ ∀ u v, v < 6 → ad E u v = true → u < n ∧ v < n ∧ ¬ u = v ∧ ad E v u = true
def nb (E v : Nat) : Nat := (E >>> (6 * v)) % 64
theorem nb_bit (E v j : Nat) : (nb E v).testBit j = (decide (j < 6) && ad E v j) := by
  unfold nb ad
  rw [show 64 = 2 ^ 6 from rfl, Nat.testBit_mod_two_pow, Nat.testBit_shiftRight]
theorem nb_lt (E v : Nat) : nb E v < 64 := Nat.mod_lt _ (by decide)
theorem nb_ad {n E v j : Nat} (h : Gr n E) : (nb E v).testBit j = true ↔ j < n ∧ ad E v j = true := by
  rw [nb_bit, Bool.and_eq_true, decide_eq_true_eq]
  constructor
  · rintro ⟨h1, h2⟩
    exact ⟨(h.2.2 v j h1 h2).2.1, h2⟩
  · rintro ⟨h1, h2⟩
    have := h.2.1
    exact ⟨by omega, h2⟩
theorem Gr.sym {n E u v : Nat} (h : Gr n E) (hv : v < n) (ha : ad E u v = true) : ad E v u = true := by
  have := h.2.1
  exact (h.2.2 u v (by omega) ha).2.2.2
theorem Gr.lt {n E u v : Nat} (h : Gr n E) (hv : v < n) (ha : ad E u v = true) : u < n := by
  have := h.2.1
  exact (h.2.2 u v (by omega) ha).1
theorem Gr.ne {n E u v : Nat} (h : Gr n E) (hv : v < n) (ha : ad E u v = true) : ¬ u = v := by
  have := h.2.1
  exact (h.2.2 u v (by omega) ha).2.2.1
theorem Gr.E_lt {n E : Nat} (h : Gr n E) : E < 2 ^ 36 := by
  apply bit_lt
  intro i hi
  cases hb : E.testBit i with
  | false => rfl
  | true =>
    have h1 : ad E (i / 6) (i % 6) = true := by
      unfold ad
      rw [show 6 * (i / 6) + i % 6 = i by omega]
      exact hb
    have h2 := (h.2.2 _ _ (Nat.mod_lt _ (by decide)) h1).1
    have := h.2.1
    omega
/-- the neighbours of a set -/
def nbs (E s n : Nat) : Nat := om (fun v => if s.testBit v then nb E v else 0) n
theorem nbs_bit {E s n j : Nat} : (nbs E s n).testBit j = true ↔ ∃ v, v < n ∧ s.testBit v = true ∧ (nb E v).testBit j = true := by
  unfold nbs
  rw [om_bit]
  constructor
  · rintro ⟨i, h1, h2⟩
    by_cases h3 : s.testBit i = true
    · rw [if_pos h3] at h2; exact ⟨i, h1, h3, h2⟩
    · rw [if_neg h3] at h2; simp at h2
  · rintro ⟨i, h1, h2, h3⟩
    exact ⟨i, h1, by rw [if_pos h2]; exact h3⟩
theorem nbs_lt (E s n : Nat) : nbs E s n < 64 := by
  show om _ n < 2 ^ 6
  apply om_lt
  intro i _
  split
  · exact nb_lt E i
  · decide
theorem nbs_ad {n E s j : Nat} (h : Gr n E) : (nbs E s n).testBit j = true ↔ j < n ∧ ∃ v, v < n ∧ s.testBit v = true ∧ ad E v j = true := by
  rw [nbs_bit]
  constructor
  · rintro ⟨v, h1, h2, h3⟩
    rw [nb_ad h] at h3
    exact ⟨h3.1, v, h1, h2, h3.2⟩
  · rintro ⟨h0, v, h1, h2, h3⟩
    exact ⟨v, h1, h2, (nb_ad h).mpr ⟨h0, h3⟩⟩
/-- what can be come to by at most k edges -/
def bl (n E u : Nat) : Nat → Nat
  | 0 => 1 <<< u
  | k + 1 => bl n E u k ||| nbs E (bl n E u k) n
theorem bl_mono1 {n E u k j : Nat} (h : (bl n E u k).testBit j = true) : (bl n E u (k + 1)).testBit j = true := by
  rw [bl, Nat.testBit_or, h, Bool.true_or]
theorem bl_mono {n E u j : Nat} {k m : Nat} (hk : k ≤ m) (h : (bl n E u k).testBit j = true) : (bl n E u m).testBit j = true := by
  induction hk with
  | refl => exact h
  | step _ ih => exact bl_mono1 ih
theorem bl_in {n E u : Nat} (h : Gr n E) (hu : u < n) : ∀ {k j : Nat}, (bl n E u k).testBit j = true → j < n
  | 0, j, hj => by
    rw [bl, one_shl_bit, decide_eq_true_eq] at hj
    omega
  | k + 1, j, hj => by
    rw [bl, Nat.testBit_or, Bool.or_eq_true] at hj
    rcases hj with h1 | h1
    · exact bl_in h hu h1
    · exact ((nbs_ad h).mp h1).1
theorem bl_lt {n E u k : Nat} (h : Gr n E) (hu : u < n) : bl n E u k < 2 ^ n := by
  apply bit_lt
  intro i hi
  cases hb : (bl n E u k).testBit i with
  | false => rfl
  | true => have := bl_in h hu hb; omega
theorem bl_lt64 {n E u k : Nat} (h : Gr n E) (hu : u < n) : bl n E u k < 64 :=
  Nat.lt_of_lt_of_le (bl_lt h hu) (Nat.pow_le_pow_right (n := 2) (by decide) h.2.1)
theorem bl_succ {n E u k j : Nat} (h : Gr n E) : (bl n E u (k + 1)).testBit j = true ↔ (bl n E u k).testBit j = true ∨ (j < n ∧ ∃ v, v < n ∧ (bl n E u k).testBit v = true ∧ ad E v j = true) := by
  rw [bl, Nat.testBit_or, Bool.or_eq_true, nbs_ad h]
/-- one edge ahead -/
theorem bl_front {n E : Nat} (h : Gr n E) : ∀ {k u j : Nat}, u < n → (bl n E u (k + 1)).testBit j = true → (bl n E u k).testBit j = true ∨ ∃ v, v < n ∧ ad E u v = true ∧ (bl n E v k).testBit j = true
  | 0, u, j, hu, hj => by
    rw [bl_succ h] at hj
    rcases hj with h1 | ⟨h0, v, h1, h2, h3⟩
    · exact .inl h1
    · rw [bl, one_shl_bit, decide_eq_true_eq] at h2
      subst h2
      exact .inr ⟨j, h0, h3, by rw [bl, one_shl_bit]; simp⟩
  | k + 1, u, j, hu, hj => by
    rw [bl_succ h] at hj
    rcases hj with h1 | ⟨h0, v, h1, h2, h3⟩
    · exact .inl h1
    · rcases bl_front h hu h2 with h4 | ⟨w, h4, h5, h6⟩
      · exact .inl ((bl_succ h).mpr (.inr ⟨h0, v, h1, h4, h3⟩))
      · exact .inr ⟨w, h4, h5, (bl_succ h).mpr (.inr ⟨h0, v, h1, h6, h3⟩)⟩
theorem bl_step {n E u v j : Nat} (h : Gr n E) (hv : v < n) (ha : ad E u v = true) : ∀ {k : Nat}, (bl n E v k).testBit j = true → (bl n E u (k + 1)).testBit j = true
  | 0, hj => by
    rw [bl, one_shl_bit, decide_eq_true_eq] at hj
    subst hj
    exact (bl_succ h).mpr (.inr ⟨hv, u, h.lt hv ha, by rw [bl, one_shl_bit]; simp, ha⟩)
  | k + 1, hj => by
    rw [bl_succ h] at hj
    rcases hj with h1 | ⟨h0, w, h1, h2, h3⟩
    · exact bl_mono1 (bl_step h hv ha h1)
    · exact (bl_succ h).mpr (.inr ⟨h0, w, h1, bl_step h hv ha h2, h3⟩)
theorem bl_sym {n E : Nat} (h : Gr n E) : ∀ {k u v : Nat}, u < n → v < n → (bl n E u k).testBit v = true → (bl n E v k).testBit u = true
  | 0, u, v, hu, hv, hj => by
    rw [bl, one_shl_bit, decide_eq_true_eq] at hj
    subst hj
    rw [bl, one_shl_bit]; simp
  | k + 1, u, v, hu, hv, hj => by
    rcases bl_front h hu hj with h1 | ⟨w, h1, h2, h3⟩
    · exact bl_mono1 (bl_sym h hu hv h1)
    · exact (bl_succ h).mpr (.inr ⟨hu, w, h1, bl_sym h h1 hv h3, h.sym h1 h2⟩)
theorem bl_self {n E u k : Nat} : (bl n E u k).testBit u = true := bl_mono (Nat.zero_le k) (by rw [bl, one_shl_bit]; simp)
/-- distances: how many balls (of the first six) a vertex is not in -/
def ds (n E u v : Nat) : Nat := sm (fun k => if (bl n E u k).testBit v then 0 else 1) 6
theorem sm_step {p : Nat → Bool} (hp : ∀ k m, k ≤ m → p k = true → p m = true) : ∀ {m k : Nat}, k < m → (p k = true ↔ sm (fun k => if p k then 0 else 1) m ≤ k)
  | m + 1, k, hk => by
    have hle : ∀ m, sm (fun k => if p k then 0 else 1) m ≤ m := fun m => by
      have := sm_le (f := fun k => if p k then 0 else 1) (c := 1) (n := m) (fun i _ => by split <;> omega)
      omega
    have hall : ∀ m, (∀ k, k < m → p k = false) → sm (fun k => if p k then 0 else 1) m = m := fun m => by
      induction m with
      | zero => intro _; rfl
      | succ m ih =>
        intro h
        rw [sm, ih (fun k hk => h k (by omega)), h m (by omega)]
        rfl
    rw [sm]
    rcases Nat.lt_or_ge k m with h1 | h1
    · by_cases h2 : p m = true
      · rw [if_pos h2, Nat.add_zero]
        exact sm_step hp h1
      · rw [if_neg h2]
        have h3 : ∀ q, q < m → p q = false := fun q hq => by
          cases h4 : p q with
          | false => rfl
          | true => exact absurd (hp q m (by omega) h4) h2
        rw [hall m h3]
        have h5 := h3 k h1
        rw [h5]
        constructor
        · intro h6; cases h6
        · intro h6; omega
    · obtain rfl : k = m := by omega
      by_cases h2 : p k = true
      · rw [if_pos h2, h2]
        exact ⟨fun _ => hle k, fun _ => rfl⟩
      · rw [if_neg h2]
        have h3 : ∀ q, q < k → p q = false := fun q hq => by
          cases h4 : p q with
          | false => rfl
          | true => exact absurd (hp q k (by omega) h4) h2
        rw [hall k h3]
        constructor
        · intro h6; exact absurd h6 h2
        · intro h6; omega
theorem ds_le {n E u v k : Nat} (hk : k < 6) : (bl n E u k).testBit v = true ↔ ds n E u v ≤ k :=
  sm_step (p := fun k => (bl n E u k).testBit v) (fun _ _ h1 h2 => bl_mono h1 h2) hk
theorem ds_le6 (n E u v : Nat) : ds n E u v ≤ 6 := by
  have := sm_le (f := fun k => if (bl n E u k).testBit v then 0 else 1) (c := 1) (n := 6) (fun i _ => by split <;> omega)
  unfold ds; omega
theorem ds_sym {n E u v : Nat} (h : Gr n E) (hu : u < n) (hv : v < n) : ds n E u v = ds n E v u := by
  unfold ds
  apply sm_cong
  intro k _
  have : (bl n E u k).testBit v = (bl n E v k).testBit u := by
    apply bl_tr
    exact ⟨fun q => bl_sym h hu hv q, fun q => bl_sym h hv hu q⟩
  rw [this]
theorem ds_self {n E u : Nat} : ds n E u u = 0 := by
  have := (ds_le (n := n) (E := E) (u := u) (v := u) (k := 0) (by decide)).mp bl_self
  omega
theorem ds_zero {n E u v : Nat} (h : ds n E u v = 0) : u = v := by
  have := (ds_le (n := n) (E := E) (u := u) (v := v) (k := 0) (by decide)).mpr (by omega)
  rw [bl, one_shl_bit, decide_eq_true_eq] at this
  omega
/-- a neighbour that is nearer -/
theorem ds_par {n E u v : Nat} (h : Gr n E) (hu : u < n) (h0 : ¬ u = v) (h6 : ds n E u v < 6) : ∃ w, w < n ∧ ad E w v = true ∧ ad E v w = true ∧ ds n E u w + 1 = ds n E u v := by
  have h1 : ¬ ds n E u v = 0 := fun q => h0 (ds_zero q)
  obtain ⟨k, hk⟩ : ∃ k, ds n E u v = k + 1 := ⟨ds n E u v - 1, by omega⟩
  have h2 := (ds_le (n := n) (E := E) (u := u) (v := v) (k := k + 1) (by omega)).mpr (by omega)
  have h3 : ¬ (bl n E u k).testBit v = true := fun q => by
    have := (ds_le (n := n) (E := E) (u := u) (v := v) (k := k) (by omega)).mp q
    omega
  rw [bl_succ h] at h2
  rcases h2 with h4 | ⟨h4, w, h5, h6', h7⟩
  · exact absurd h4 h3
  · refine ⟨w, h5, h7, h.sym h4 h7, ?_⟩
    have h8 := (ds_le (n := n) (E := E) (u := u) (v := w) (k := k) (by omega)).mp h6'
    have h9 : ¬ ds n E u w < k := fun q => by
      have h10 := (ds_le (n := n) (E := E) (u := u) (v := w) (k := k - 1) (by omega)).mpr (by omega)
      have h11 : (bl n E u k).testBit v = true := by
        have h12 : k = k - 1 + 1 := by omega
        rw [h12, bl_succ h]
        exact .inr ⟨h4, w, h5, h10, h7⟩
      exact h3 h11
    omega
theorem ds_near {n E u v w : Nat} (h : Gr n E) (hw : w < n) (hv : v < n) (ha : ad E v w = true) (h6 : ds n E u v < 5) : ds n E u w ≤ ds n E u v + 1 := by
  refine (ds_le (by omega)).mp ?_
  rw [bl_succ h]
  exact .inr ⟨hw, v, hv, (ds_le (by omega)).mpr (Nat.le_refl _), ha⟩
/-- the graph is connected -/
def Cn (n E : Nat) : Prop := ∀ v, v < n → (bl n E 0 (n - 1)).testBit v = true
/-- balls that stop growing -/
theorem bl_stop {n E u k : Nat} (h : Gr n E) (hs : ∀ j, (bl n E u (k + 1)).testBit j = true → (bl n E u k).testBit j = true) : ∀ m j, (bl n E u (k + m)).testBit j = true → (bl n E u k).testBit j = true
  | 0, j, hj => hj
  | m + 1, j, hj => by
    rw [← Nat.add_assoc, bl_succ h] at hj
    rcases hj with h1 | ⟨h0, v, h1, h2, h3⟩
    · exact bl_stop h hs m j h1
    · exact hs j ((bl_succ h).mpr (.inr ⟨h0, v, h1, bl_stop h hs m v h2, h3⟩))
/-- how many vertices below n a set has -/
def pcn (s n : Nat) : Nat := sm (fun v => if s.testBit v then 1 else 0) n
theorem pcn_le (s n : Nat) : pcn s n ≤ n := by
  have := sm_le (f := fun v => if s.testBit v then 1 else 0) (c := 1) (n := n) (fun i _ => by split <;> omega)
  unfold pcn; omega
theorem pcn_mono {s t : Nat} (h : ∀ j, s.testBit j = true → t.testBit j = true) : ∀ n, pcn s n ≤ pcn t n
  | 0 => Nat.le_refl _
  | n + 1 => by
    have h1 := pcn_mono h n
    unfold pcn at h1 ⊢
    rw [sm, sm]
    by_cases h2 : s.testBit n = true
    · rw [if_pos h2, if_pos (h n h2)]; omega
    · rw [if_neg h2]; omega
theorem pcn_lt {s t j : Nat} (h : ∀ j, s.testBit j = true → t.testBit j = true) (h1 : ¬ s.testBit j = true) (h2 : t.testBit j = true) : ∀ {n}, j < n → pcn s n < pcn t n
  | n + 1, hj => by
    have h3 := pcn_mono h n
    unfold pcn at h3 ⊢
    rw [sm, sm]
    rcases Nat.lt_or_ge j n with h4 | h4
    · have h5 := pcn_lt h h1 h2 h4
      unfold pcn at h5
      by_cases h6 : s.testBit n = true
      · rw [if_pos h6, if_pos (h n h6)]; omega
      · rw [if_neg h6]; omega
    · obtain rfl : j = n := by omega
      rw [if_neg h1, if_pos h2]; omega
theorem pcn_full {s : Nat} : ∀ {n}, pcn s n = n → ∀ j, j < n → s.testBit j = true
  | n + 1, h, j, hj => by
    have h1 := pcn_le s n
    unfold pcn at h1 h
    rw [sm] at h
    by_cases h2 : s.testBit n = true
    · rw [if_pos h2] at h
      rcases Nat.lt_or_ge j n with h3 | h3
      · exact pcn_full (n := n) (by unfold pcn; omega) j h3
      · obtain rfl : j = n := by omega
        exact h2
    · rw [if_neg h2] at h; omega
/-- a ball of k edges has k + 1 vertices at least, or grows no more -/
theorem bl_grow {n E u : Nat} (h : Gr n E) (hu : u < n) : ∀ k, k + 1 ≤ pcn (bl n E u k) n ∨ ∀ m j, (bl n E u m).testBit j = true → (bl n E u k).testBit j = true
  | 0 => by
    left
    have : pcn 0 n < pcn (bl n E u 0) n := pcn_lt (s := 0) (t := bl n E u 0) (fun j hj => by simp at hj) (j := u) (by simp) bl_self hu
    omega
  | k + 1 => by
    by_cases hs : ∀ j, (bl n E u (k + 1)).testBit j = true → (bl n E u k).testBit j = true
    · right
      intro m j hj
      rcases Nat.lt_or_ge m k with h1 | h1
      · exact bl_mono (by omega) hj
      · have := bl_stop h hs (m - k) j (by rw [show k + (m - k) = m by omega]; exact hj)
        exact bl_mono1 this
    · rcases bl_grow h hu k with h1 | h1
      · left
        obtain ⟨j, hj⟩ : ∃ j, ¬ ((bl n E u (k + 1)).testBit j = true → (bl n E u k).testBit j = true) := Classical.not_forall.mp hs
        have hj1 : (bl n E u (k + 1)).testBit j = true := Classical.byContradiction fun q => hj (fun q2 => absurd q2 q)
        have hj2 : ¬ (bl n E u k).testBit j = true := fun q => hj (fun _ => q)
        have := pcn_lt (s := bl n E u k) (t := bl n E u (k + 1)) (fun j hj => bl_mono1 hj) hj2 hj1 (bl_in h hu hj1)
        omega
      · right
        intro m j hj
        exact bl_mono1 (h1 m j hj)
theorem bl_all {n E u : Nat} (h : Gr n E) (hu : u < n) {m j : Nat} (hj : (bl n E u m).testBit j = true) : (bl n E u (n - 1)).testBit j = true := by
  rcases bl_grow h hu (n - 1) with h1 | h1
  · have h2 := pcn_le (bl n E u (n - 1)) n
    exact pcn_full (by omega) j (bl_in h hu hj)
  · exact h1 m j hj
theorem bl_trans {n E u v j : Nat} (h : Gr n E) : ∀ {k m : Nat}, (bl n E u k).testBit v = true → (bl n E v m).testBit j = true → (bl n E u (k + m)).testBit j = true
  | k, 0, h1, h2 => by
    rw [bl, one_shl_bit, decide_eq_true_eq] at h2
    subst h2
    exact h1
  | k, m + 1, h1, h2 => by
    rw [bl_succ h] at h2
    rw [← Nat.add_assoc, bl_succ h]
    rcases h2 with h3 | ⟨h0, w, h3, h4, h5⟩
    · exact .inl (bl_trans h h1 h3)
    · exact .inr ⟨h0, w, h3, bl_trans h h1 h4, h5⟩
theorem Cn.all {n E u v : Nat} (c : Cn n E) (h : Gr n E) (hu : u < n) (hv : v < n) : (bl n E u (n - 1)).testBit v = true := by
  have h1 := bl_sym h (show 0 < n from h.1) hu (c u hu)
  exact bl_all h hu (bl_trans h h1 (c v hv))
theorem Cn.ds {n E u v : Nat} (c : Cn n E) (h : Gr n E) (hu : u < n) (hv : v < n) : ds n E u v ≤ n - 1 := by
  have := h.2.1
  have := h.1
  exact (ds_le (by omega)).mp (c.all h hu hv)
