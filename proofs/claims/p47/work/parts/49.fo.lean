/-! ===== FAILING PILES: order, counts, how many ===== -/
section FO
variable {n : Nat} {a : Nat → Nat → Bool} {w : Nat → Nat}
theorem dg_hi {c v l : Nat} (hl : l < n) (hv : v ≤ l) : dg w n c v = dg w n (c / 2 ^ shf w n l * 2 ^ shf w n l) v := by
  unfold dg
  have h1 : shf w n l ≤ shf w n v := by
    rcases Nat.lt_or_ge v l with h | h
    · have := shf_lt (w := w) (n := n) h hl; omega
    · obtain rfl : v = l := by omega
      exact Nat.le_refl _
  obtain ⟨k, hk⟩ : ∃ k, shf w n v = shf w n l + k := ⟨shf w n v - shf w n l, by omega⟩
  rw [hk, pw_add, ← Nat.div_div_eq_div_mul, ← Nat.div_div_eq_div_mul, Nat.mul_div_cancel _ (Nat.two_pow_pos _)]
theorem dg_lo {x v l : Nat} (hlv : l < v) (hv : v < n) : dg w n (x * 2 ^ shf w n l) v = 0 := by
  unfold dg
  have h1 := shf_lt (w := w) (n := n) hlv hv
  obtain ⟨k, hk⟩ : ∃ k, shf w n l = shf w n v + (w v + k) := ⟨shf w n l - shf w n v - w v, by omega⟩
  rw [hk, pw_add, pw_add, show x * (2 ^ shf w n v * (2 ^ w v * 2 ^ k)) = 2 ^ shf w n v * (2 ^ w v * (x * 2 ^ k)) by
    rw [Nat.mul_left_comm]; congr 1; rw [Nat.mul_left_comm]]
  rw [Nat.mul_div_cancel_left _ (Nat.two_pow_pos _), Nat.mul_mod_right]
theorem mod_zero {c l : Nat} (hl : l < n) (hc : c < 2 ^ sm w n) (h : ∀ u, l < u → u < n → dg w n c u = 0) : c % 2 ^ shf w n l = 0 := by
  have h1 := Nat.div_add_mod c (2 ^ shf w n l)
  have h2 : c / 2 ^ shf w n l * 2 ^ shf w n l ≤ c := Nat.div_mul_le_self _ _
  have e1 : c = c / 2 ^ shf w n l * 2 ^ shf w n l := by
    refine dg_ext (w := w) (n := n) hc (by omega) fun v hv => ?_
    rcases Nat.lt_or_ge l v with h3 | h3
    · rw [h v h3 hv, dg_lo h3 hv]
    · exact dg_hi hl h3
  rw [Nat.mul_comm] at e1
  omega
/-- of two piles with as many pebbles the larger is larger by a unit of the smaller's last vertex -/
theorem ord_gap {p q l : Nat} (hl : l < n) (hp : p < 2 ^ sm w n) (hq : q < 2 ^ sm w n) (ht : tot w n p = tot w n q) (hpq : p < q) (h0 : p % 2 ^ shf w n l = 0) : p + 2 ^ shf w n l ≤ q := by
  rcases Nat.lt_or_ge q (p + 2 ^ shf w n l) with h1 | h1
  · exfalso
    have hA : 0 < 2 ^ shf w n l := Nat.two_pow_pos _
    have e1 : q / 2 ^ shf w n l = p / 2 ^ shf w n l := by
      have h2 := Nat.div_add_mod p (2 ^ shf w n l)
      generalize 2 ^ shf w n l = A at *
      rw [show q = (q - p) + A * (p / A) by omega, Nat.add_mul_div_left _ _ hA, Nat.div_eq_of_lt (by omega), Nat.zero_add]
    have e2 : ∀ v, v < n → v ≤ l → dg w n q v = dg w n p v := fun v hv hvl => by rw [dg_hi hl hvl, e1, ← dg_hi hl hvl]
    have e3 : ∀ v, v < n → l < v → dg w n p v = 0 := fun v hv hvl => by
      have h2 := Nat.div_add_mod p (2 ^ shf w n l)
      rw [h0, Nat.add_zero, Nat.mul_comm] at h2
      rw [← h2]
      exact dg_lo hvl hv
    have e4 : ∀ v, v < n → dg w n p v ≤ dg w n q v := fun v hv => by
      rcases Nat.lt_or_ge l v with h2 | h2
      · rw [e3 v hv h2]; exact Nat.zero_le _
      · rw [e2 v hv h2]; exact Nat.le_refl _
    have e5 : ∀ m, m ≤ n → sm (dg w n p) m ≤ sm (dg w n q) m := fun m => by
      induction m with
      | zero => intro _; exact Nat.le_refl _
      | succ m ih =>
        intro hm
        have := ih (by omega)
        have := e4 m (by omega)
        rw [sm, sm]; omega
    have e6 : ∀ m, m ≤ n → sm (dg w n p) m = sm (dg w n q) m → ∀ v, v < m → dg w n p v = dg w n q v := fun m => by
      induction m with
      | zero => intro _ _ v hv; exact absurd hv (Nat.not_lt_zero _)
      | succ m ih =>
        intro hm h v hv
        have h7 := e5 m (by omega)
        have h8 := e4 m (by omega)
        rw [sm, sm] at h
        rcases Nat.lt_or_ge v m with h9 | h9
        · exact ih (by omega) (by omega) v h9
        · obtain rfl : v = m := by omega
          omega
    have := dg_ext hp hq (e6 n (Nat.le_refl _) ht)
    omega
  · exact h1
/-- how many numbers below N have a property -/
def ct (P : Nat → Bool) : Nat → Nat
  | 0 => 0
  | n + 1 => ct P n + if P n then 1 else 0
/-- an increasing row of just these numbers is as long -/
theorem ct_row {P : Nat → Bool} {r : Nat → Nat} {m : Nat} (hr : ∀ i j, i < j → j < m → r i < r j) (hP : ∀ i, i < m → P (r i) = true) (N : Nat) (hN : ∀ i, i < m → r i < N) (hA : ∀ c, c < N → P c = true → ∃ i, i < m ∧ r i = c) : ct P N = m := by
  have key : ∀ M, M ≤ N → ∃ j, j ≤ m ∧ ct P M = j ∧ (∀ i, i < j → r i < M) ∧ (∀ i, j ≤ i → i < m → M ≤ r i) := by
    intro M
    induction M with
    | zero => intro _; exact ⟨0, Nat.zero_le _, rfl, fun i hi => absurd hi (Nat.not_lt_zero _), fun i _ _ => Nat.zero_le _⟩
    | succ M ih =>
      intro hM
      obtain ⟨j, h1, h2, h3, h4⟩ := ih (by omega)
      by_cases hp : P M = true
      · obtain ⟨i, hi, rfl⟩ := hA M (by omega) hp
        have hij : i = j := by
          rcases Nat.lt_trichotomy i j with q | q | q
          · have := h3 i q; omega
          · exact q
          · have := h4 j (Nat.le_refl _) (by omega)
            have := hr j i q hi
            omega
        subst hij
        refine ⟨i + 1, by omega, by rw [ct, h2, if_pos hp], fun k hk => ?_, fun k hk hk2 => ?_⟩
        · rcases Nat.lt_or_ge k i with q | q
          · have := h3 k q; omega
          · obtain rfl : k = i := by omega
            omega
        · have := hr i k (by omega) hk2
          omega
      · refine ⟨j, h1, by rw [ct, h2, if_neg hp, Nat.add_zero], fun k hk => by have := h3 k hk; omega, fun k hk hk2 => ?_⟩
        have h5 := h4 k hk hk2
        rcases Nat.lt_or_ge M (r k) with q | q
        · exact q
        · exfalso
          have : r k = M := by omega
          rw [← this] at hp
          exact hp (hP k hk2)
  obtain ⟨j, h1, h2, h3, h4⟩ := key N (Nat.le_refl _)
  rcases Nat.lt_or_ge j m with q | q
  · have := h4 j (Nat.le_refl _) q
    have := hN j q
    omega
  · omega
/-! the vertices in the order of their distance -/
def vo (n : Nat) (w : Nat → Nat) : List Nat := (List.range n).mergeSort (fun u v => decide (w u ≤ w v))
theorem vo_perm : (vo n w).Perm (List.range n) := List.mergeSort_perm _ _
theorem vo_mem {v : Nat} : v ∈ vo n w ↔ v < n := by
  rw [vo_perm.mem_iff, List.mem_range]
theorem vo_sorted : (vo n w).Pairwise (fun u v => w u ≤ w v) := by
  have h := List.pairwise_mergeSort (le := fun u v => decide (w u ≤ w v)) (fun x y z h1 h2 => by simp at *; omega) (fun x y => by simp; omega) (List.range n)
  exact h.imp (fun {x y} h1 => by simpa using h1)
theorem vo_len : (vo n w).length = n := by rw [vo_perm.length_eq, List.length_range]
theorem sm_list (f : Nat → Nat) : ∀ n, ((List.range n).map f).sum = sm f n
  | 0 => rfl
  | n + 1 => by rw [List.range_succ, List.map_append, List.sum_append, sm_list f n, sm]; simp
theorem perm_sum {l m : List Nat} (h : l.Perm m) : l.sum = m.sum := by
  induction h with
  | nil => rfl
  | cons x _ ih => rw [List.sum_cons, List.sum_cons, ih]
  | swap x y l => rw [List.sum_cons, List.sum_cons, List.sum_cons, List.sum_cons]; omega
  | trans _ _ h1 h2 => rw [h1, h2]
theorem vo_sum (f : Nat → Nat) : ((vo n w).map f).sum = sm f n := by
  rw [← sm_list, perm_sum (vo_perm.map f)]
/-- a place in the order: a vertex is at the present distance or one farther -/
theorem vo_step {par : Nat → Nat} (hp : Pa n a w par) {v : Nat} {l : List Nat} {d : Nat} (hs : (v :: l).Pairwise (fun u v => w u ≤ w v)) (h1 : ∀ u, u ∈ v :: l → u < n ∧ 1 ≤ w u ∧ d ≤ w u) (h2 : ∀ u, u < n → ¬ u ∈ v :: l → w u ≤ d) : w v = d ∨ w v = d + 1 := by
  obtain ⟨q1, q2, q3⟩ := h1 v List.mem_cons_self
  obtain ⟨p1, p2, p3⟩ := hp v q1 q2
  have h3 : ¬ par v ∈ v :: l := by
    intro h4
    rw [List.pairwise_cons] at hs
    rcases List.mem_cons.mp h4 with h5 | h5
    · rw [h5] at p3; omega
    · have := hs.1 _ h5; omega
  have := h2 _ p1 h3
  omega
theorem vo_next {v : Nat} {l : List Nat} {d : Nat} (hs : (v :: l).Pairwise (fun u v => w u ≤ w v)) (h1 : ∀ u, u ∈ v :: l → u < n ∧ 1 ≤ w u ∧ d ≤ w u) (h2 : ∀ u, u < n → ¬ u ∈ v :: l → w u ≤ d) : (∀ u, u ∈ l → u < n ∧ 1 ≤ w u ∧ w v ≤ w u) ∧ (∀ u, u < n → ¬ u ∈ l → w u ≤ w v) := by
  rw [List.pairwise_cons] at hs
  refine ⟨fun u hu => ?_, fun u hu h3 => ?_⟩
  · obtain ⟨q1, q2, q3⟩ := h1 u (List.mem_cons_of_mem _ hu)
    exact ⟨q1, q2, hs.1 u hu⟩
  · by_cases h4 : u = v
    · subst h4; exact Nat.le_refl _
    · have h5 := h2 u hu (fun h6 => by
        rcases List.mem_cons.mp h6 with h7 | h7
        · exact h4 h7
        · exact h3 h7)
      have h6 := (h1 v List.mem_cons_self).2.2
      omega
theorem vo_bound {par : Nat → Nat} (hp : Pa n a w par) (g : Nat → Nat) (hg : ∀ i j, i ≤ j → g i ≤ g j) : ∀ (l : List Nat) (d e : Nat), d ≤ e → l.Pairwise (fun u v => w u ≤ w v) → (∀ u, u ∈ l → u < n ∧ 1 ≤ w u ∧ d ≤ w u) → (∀ u, u < n → ¬ u ∈ l → w u ≤ d) → (l.map (fun v => g (w v))).sum ≤ sm (fun i => g (e + 1 + i)) l.length
  | [], _, _, _, _, _, _ => Nat.zero_le _
  | v :: l, d, e, hde, hs, h1, h2 => by
    have h3 := vo_step hp hs h1 h2
    obtain ⟨h4, h5⟩ := vo_next hs h1 h2
    have h6 := vo_bound hp g hg l (w v) (e + 1) (by omega) (List.pairwise_cons.mp hs).2 h4 h5
    have h7 := hg (w v) (e + 1) (by omega)
    have h8 : ∀ m, sm (fun i => g (e + 1 + i)) (m + 1) = g (e + 1) + sm (fun i => g (e + 1 + 1 + i)) m := by
      intro m
      have := sm_split (fun i => g (e + 1 + i)) 1 m
      rw [Nat.add_comm 1 m] at this
      rw [this]
      have e9 : sm (fun i => g (e + 1 + i)) 1 = g (e + 1) := by rw [sm, sm]; simp
      rw [e9]
      congr 1
      apply sm_cong
      intro i _
      congr 1
      omega
    rw [List.map_cons, List.sum_cons, List.length_cons, h8]
    omega
/-- the target stands first -/
theorem vo_cons {t : Nat} (ht : t < n) (h0 : w t = 0) (hu : ∀ v, v < n → w v = 0 → v = t) : ∃ l, vo n w = t :: l ∧ (∀ u, u ∈ l → u < n ∧ 1 ≤ w u ∧ 0 ≤ w u) ∧ (∀ u, u < n → ¬ u ∈ l → w u ≤ 0) ∧ l.Pairwise (fun u v => w u ≤ w v) ∧ l.length + 1 = n := by
  have h1 := vo_mem (n := n) (w := w) (v := t)
  have h2 := vo_sorted (n := n) (w := w)
  have h3 := vo_len (n := n) (w := w)
  have h4 : (vo n w).Nodup := vo_perm.nodup_iff.mpr List.nodup_range
  have h5 : ∀ v, v ∈ vo n w ↔ v < n := fun v => vo_mem
  cases hL : vo n w with
  | nil => rw [hL] at h1; exact absurd (h1.mpr ht) (by simp)
  | cons x l =>
    rw [hL] at h1 h2 h3 h4 h5
    have hx : x = t := by
      have hxn := (h5 x).mp List.mem_cons_self
      rcases List.mem_cons.mp (h1.mpr ht) with h6 | h6
      · exact h6.symm
      · have := (List.pairwise_cons.mp h2).1 t h6
        exact hu x hxn (by omega)
    subst hx
    rw [List.nodup_cons] at h4
    refine ⟨l, rfl, fun u hm => ?_, fun u hun hm => ?_, (List.pairwise_cons.mp h2).2, by simpa using h3⟩
    · have hun := (h5 u).mp (List.mem_cons_of_mem _ hm)
      refine ⟨hun, ?_, Nat.zero_le _⟩
      rcases Nat.lt_or_ge 0 (w u) with h6 | h6
      · exact h6
      · have := hu u hun (by omega)
        subst this
        exact absurd hm h4.1
    · rcases List.mem_cons.mp ((h5 u).mpr hun) with h6 | h6
      · rw [h6, h0]; exact Nat.le_refl _
      · exact absurd h6 hm
theorem w_sum {par : Nat → Nat} (hp : Pa n a w par) {t : Nat} (ht : t < n) (h0 : w t = 0) (hu : ∀ v, v < n → w v = 0 → v = t) (hn : n ≤ 6) : sm w n ≤ 15 ∧ sm (fun v => 2 ^ w v - 1) n ≤ 57 := by
  obtain ⟨l, e1, h1, h2, h3, h4⟩ := vo_cons ht h0 hu
  have b1 := vo_bound hp (fun i => i) (fun i j h => h) l 0 0 (Nat.le_refl _) h3 h1 h2
  have b2 := vo_bound hp (fun i => 2 ^ i - 1) (fun i j h => by have := Nat.pow_le_pow_right (n := 2) (by decide) h; omega) l 0 0 (Nat.le_refl _) h3 h1 h2
  have s1 := vo_sum (n := n) (w := w) w
  have s2 := vo_sum (n := n) (w := w) (fun v => 2 ^ w v - 1)
  rw [e1, List.map_cons, List.sum_cons, h0] at s1
  rw [e1, List.map_cons, List.sum_cons, h0] at s2
  have hl : l.length ≤ 5 := by omega
  have m1 : sm (fun i => 0 + 1 + i) l.length ≤ sm (fun i => 0 + 1 + i) 5 := sm_le_of_lt hl
  have m2 : sm (fun i => 2 ^ (0 + 1 + i) - 1) l.length ≤ sm (fun i => 2 ^ (0 + 1 + i) - 1) 5 := sm_le_of_lt hl
  have m3 : sm (fun i => 0 + 1 + i) 5 = 15 := by decide
  have m4 : sm (fun i => 2 ^ (0 + 1 + i) - 1) 5 = 57 := by decide
  have b1' : (l.map w).sum ≤ sm (fun i => 0 + 1 + i) l.length := b1
  have b2' : (l.map (fun v => 2 ^ w v - 1)).sum ≤ sm (fun i => 2 ^ (0 + 1 + i) - 1) l.length := b2
  rw [m3] at m1
  rw [m4] at m2
  simp only [Nat.pow_zero] at s2
  omega
/-- rows of numbers each at most twice the greatest a step nearer, and one -/
def en : List Bool → Nat → Nat → List (List Nat)
  | [], _, _ => [[]]
  | true :: s, _, mc => (List.range (2 * mc + 2)).flatMap (fun u => (en s mc u).map (fun x => u :: x))
  | false :: s, mp, mc => (List.range (2 * mp + 2)).flatMap (fun u => (en s mp (max mc u)).map (fun x => u :: x))
def el : List Bool → Nat → Nat → Nat
  | [], _, _ => 1
  | true :: s, _, mc => sm (fun u => el s mc u) (2 * mc + 2)
  | false :: s, mp, mc => sm (fun u => el s mp (max mc u)) (2 * mp + 2)
theorem en_len : ∀ (s : List Bool) (mp mc : Nat), (en s mp mc).length = el s mp mc
  | [], _, _ => rfl
  | true :: s, mp, mc => by
    rw [en, el, List.length_flatMap, ← sm_list]
    congr 1
    apply List.map_congr_left
    intro u _
    rw [List.length_map, en_len s]
  | false :: s, mp, mc => by
    rw [en, el, List.length_flatMap, ← sm_list]
    congr 1
    apply List.map_congr_left
    intro u _
    rw [List.length_map, en_len s]
theorem el_bound : ∀ s : List Bool, s.length ≤ 4 → el (true :: s) 0 0 ≤ 2048
  | [], _ => by decide +kernel
  | [x], _ => by cases x <;> decide +kernel
  | [x, y], _ => by cases x <;> cases y <;> decide +kernel
  | [x, y, z], _ => by cases x <;> cases y <;> cases z <;> decide +kernel
  | [x, y, z, u], _ => by cases x <;> cases y <;> cases z <;> cases u <;> decide +kernel
  | _ :: _ :: _ :: _ :: _ :: _, h => by simp at h
def stp (w : Nat → Nat) : Nat → List Nat → List Bool
  | _, [] => []
  | d, v :: l => decide (w v = d + 1) :: stp w (w v) l
theorem stp_len : ∀ (d : Nat) (l : List Nat), (stp w d l).length = l.length
  | _, [] => rfl
  | d, v :: l => by rw [stp, List.length_cons, List.length_cons, stp_len]
theorem en_mem {par : Nat → Nat} (hp : Pa n a w par) (U : Nat → Nat) (hU : ∀ v, v < n → 1 ≤ w v → U v ≤ 2 * U (par v) + 1) : ∀ (l : List Nat) (d mp mc : Nat), l.Pairwise (fun u v => w u ≤ w v) → (∀ u, u ∈ l → u < n ∧ 1 ≤ w u ∧ d ≤ w u) → (∀ u, u < n → ¬ u ∈ l → w u ≤ d) → (∀ u, u < n → ¬ u ∈ l → w u = d → U u ≤ mc) → (∀ u, u < n → w u + 1 = d → U u ≤ mp) → l.map U ∈ en (stp w d l) mp mc
  | [], _, _, _, _, _, _, _, _ => by simp [stp, en]
  | v :: l, d, mp, mc, hs, h1, h2, h3, h4 => by
    have h5 := vo_step hp hs h1 h2
    obtain ⟨h6, h7⟩ := vo_next hs h1 h2
    obtain ⟨q1, q2, q3⟩ := h1 v List.mem_cons_self
    obtain ⟨p1, p2, p3⟩ := hp v q1 q2
    have hUv := hU v q1 q2
    have hpar : ¬ par v ∈ v :: l := by
      intro h8
      rw [List.pairwise_cons] at hs
      rcases List.mem_cons.mp h8 with h9 | h9
      · rw [h9] at p3; omega
      · have := hs.1 _ h9; omega
    rw [stp, List.map_cons]
    by_cases h8 : w v = d + 1
    · rw [decide_eq_true h8, en, List.mem_flatMap]
      have h9 := h3 (par v) p1 hpar (by omega)
      refine ⟨U v, List.mem_range.mpr (by omega), List.mem_map.mpr ⟨l.map U, ?_, rfl⟩⟩
      refine en_mem hp U hU l (w v) mc (U v) (List.pairwise_cons.mp hs).2 h6 h7 (fun u hu hm hw => ?_) (fun u hu hw => ?_)
      · by_cases h10 : u = v
        · subst h10; exact Nat.le_refl _
        · have := h2 u hu (fun h11 => by
            rcases List.mem_cons.mp h11 with h12 | h12
            · exact h10 h12
            · exact hm h12)
          omega
      · refine h3 u hu (fun h10 => ?_) (by omega)
        rw [List.pairwise_cons] at hs
        rcases List.mem_cons.mp h10 with h11 | h11
        · subst h11; omega
        · have := hs.1 u h11; omega
    · rw [decide_eq_false h8, en, List.mem_flatMap]
      have h9 := h4 (par v) p1 (by omega)
      refine ⟨U v, List.mem_range.mpr (by omega), List.mem_map.mpr ⟨l.map U, ?_, rfl⟩⟩
      refine en_mem hp U hU l (w v) mp (max mc (U v)) (List.pairwise_cons.mp hs).2 h6 h7 (fun u hu hm hw => ?_) (fun u hu hw => h4 u hu (by omega))
      by_cases h10 : u = v
      · subst h10; exact Nat.le_max_right _ _
      · have := h3 u hu (fun h11 => by
          rcases List.mem_cons.mp h11 with h12 | h12
          · exact h10 h12
          · exact hm h12) (by omega)
        exact Nat.le_trans this (Nat.le_max_left _ _)
/-- never more than 2048 piles fail -/
theorem fa_few (hir : ir n a) {par : Nat → Nat} (hp : Pa n a w par) {t : Nat} (ht : t < n) (h0 : w t = 0) (hu : ∀ v, v < n → w v = 0 → v = t) (hn : n ≤ 6) {m : Nat} {r : Nat → Nat} (hr : ∀ i j, i < j → j < m → ¬ r i = r j) (hf : ∀ i, i < m → r i < 2 ^ sm w n ∧ fa n a w (r i) = true) : m ≤ 2048 := by
  obtain ⟨l, e1, h1, h2, h3, h4⟩ := vo_cons ht h0 hu
  let U : Nat → Nat → Nat := fun c v => 2 ^ w v - 1 - sx (dg w n c) par (w v) v
  have hUt : ∀ c, U c t = 0 := fun c => by show 2 ^ w t - 1 - _ = 0; rw [h0]; rfl
  have hU : ∀ c, c < 2 ^ sm w n → fa n a w c = true → ∀ v, v < n → 1 ≤ w v → U c v ≤ 2 * U c (par v) + 1 := by
    intro c hc hfc v hv hw
    obtain ⟨p1, p2, p3⟩ := hp v hv hw
    have b1 := fa_sx hir hp _ c v (Nat.le_refl _) hc hv hfc
    have b2 := fa_sx hir hp _ c (par v) (Nat.le_refl _) hc p1 hfc
    show 2 ^ w v - 1 - sx (dg w n c) par (w v) v ≤ 2 * (2 ^ w (par v) - 1 - sx (dg w n c) par (w (par v)) (par v)) + 1
    obtain ⟨d, hd⟩ : ∃ d, w v = d + 1 := ⟨w v - 1, by omega⟩
    have hd2 : w (par v) = d := by omega
    rw [hd, sx] at b1
    rw [hd2] at b2
    rw [hd, hd2, sx, Nat.pow_succ]
    omega
  have hmem : ∀ i, i < m → l.map (U (r i)) ∈ en (stp w 0 l) 0 0 := by
    intro i hi
    obtain ⟨f1, f2⟩ := hf i hi
    refine en_mem hp (U (r i)) (hU _ f1 f2) l 0 0 0 h3 h1 h2 (fun u hun hm hw => ?_) (fun u _ hw => by omega)
    have := hu u hun hw
    subst this
    rw [hUt]; exact Nat.le_refl _
  have hlen : (en (stp w 0 l) 0 0).length ≤ 2048 := by
    rw [en_len]
    cases hl : l with
    | nil => show 1 ≤ 2048; decide
    | cons v l' =>
      rw [stp]
      have hv := h1 v (by rw [hl]; exact List.mem_cons_self)
      have h5 := vo_step hp (by rw [← hl]; exact h3) (by rw [← hl]; exact h1) (by rw [← hl]; exact h2)
      rw [decide_eq_true (show w v = 0 + 1 by omega)]
      apply el_bound
      rw [stp_len]
      rw [hl, List.length_cons] at h4
      omega
  have hidx : ∀ i, ∃ k, i < m → k < (en (stp w 0 l) 0 0).length ∧ (en (stp w 0 l) 0 0)[k]? = some (l.map (U (r i))) := by
    intro i
    by_cases hi : i < m
    · obtain ⟨k, hk⟩ := List.getElem?_of_mem (hmem i hi)
      exact ⟨k, fun _ => ⟨(List.getElem?_eq_some_iff.mp hk).1, hk⟩⟩
    · exact ⟨0, fun h => absurd h hi⟩
  have hch := Classical.axiomOfChoice hidx
  obtain ⟨f, hfx⟩ := hch
  refine Nat.le_trans (fb_holes (en (stp w 0 l) 0 0).length m f (fun i hi => (hfx i hi).1) (fun i j hij hj hEq => ?_)) hlen
  have e2 := (hfx i (by omega)).2
  have e3 := (hfx j hj).2
  rw [hEq, e3] at e2
  have e4 : l.map (U (r j)) = l.map (U (r i)) := Option.some.inj e2
  have e5 : ∀ v, v < n → U (r j) v = U (r i) v := by
    intro v hv
    by_cases hvt : v = t
    · subst hvt; rw [hUt, hUt]
    · have hvl : v ∈ l := by
        have := vo_mem (n := n) (w := w) (v := v) |>.mpr hv
        rw [e1] at this
        rcases List.mem_cons.mp this with q | q
        · exact absurd q hvt
        · exact q
      exact List.map_inj_left.mp e4 v hvl
  obtain ⟨f1, f2⟩ := hf i (by omega)
  obtain ⟨g1, g2⟩ := hf j hj
  have e6 : ∀ v, v < n → sx (dg w n (r j)) par (w v) v = sx (dg w n (r i)) par (w v) v := by
    intro v hv
    have b1 := fa_sx hir hp _ (r i) v (Nat.le_refl _) f1 hv f2
    have b2 := fa_sx hir hp _ (r j) v (Nat.le_refl _) g1 hv g2
    have b3 : 2 ^ w v - 1 - sx (dg w n (r j)) par (w v) v = 2 ^ w v - 1 - sx (dg w n (r i)) par (w v) v := e5 v hv
    omega
  refine hr i j hij hj (dg_ext f1 g1 fun v hv => ?_)
  by_cases hw : 1 ≤ w v
  · obtain ⟨p1, p2, p3⟩ := hp v hv hw
    have b1 := e6 v hv
    have b2 := e6 (par v) p1
    obtain ⟨d, hd⟩ : ∃ d, w v = d + 1 := ⟨w v - 1, by omega⟩
    rw [hd, sx, sx] at b1
    rw [show w (par v) = d by omega] at b2
    omega
  · have k1 := dg_lt (w := w) (n := n) (r i) v
    have k2 := dg_lt (w := w) (n := n) (r j) v
    rw [show w v = 0 by omega, Nat.pow_zero] at k1 k2
    omega
end FO
