/-! ===== FAILING PILES: piles below the powers of two as digits of a number ===== -/
def al (P : Nat → Bool) : Nat → Bool
  | 0 => true
  | n + 1 => al P n && P n
theorem al_iff {P : Nat → Bool} : ∀ {n : Nat}, al P n = true ↔ ∀ i, i < n → P i = true
  | 0 => ⟨fun _ i hi => absurd hi (Nat.not_lt_zero _), fun _ => rfl⟩
  | n + 1 => by
    rw [al, Bool.and_eq_true, al_iff]
    constructor
    · rintro ⟨h1, h2⟩ i hi
      rcases Nat.lt_or_ge i n with h3 | h3
      · exact h1 i h3
      · obtain rfl : i = n := by omega
        exact h2
    · intro h
      exact ⟨fun i hi => h i (by omega), h n (by omega)⟩
theorem al_cong {P Q : Nat → Bool} {n : Nat} (h : ∀ i, i < n → P i = Q i) : al P n = al Q n := by
  apply bl_tr
  rw [al_iff, al_iff]
  exact ⟨fun h1 i hi => by rw [← h i hi]; exact h1 i hi, fun h1 i hi => by rw [h i hi]; exact h1 i hi⟩
theorem sm_upd {f g : Nat → Nat} {v : Nat} : ∀ {n : Nat}, v < n → (∀ u, u < n → ¬ u = v → g u = f u) → sm g n + f v = sm f n + g v
  | n + 1, hv, h => by
    rw [sm, sm]
    rcases Nat.lt_or_ge v n with h1 | h1
    · have h2 := sm_upd (n := n) h1 (fun u hu hne => h u (by omega) hne)
      have h3 := h n (by omega) (by omega)
      omega
    · obtain rfl : v = n := by omega
      rw [sm_cong (f := g) (g := f) (fun i hi => h i (by omega) (by omega))]
      omega
/-- how many bits stand behind a vertex' own -/
def shf (w : Nat → Nat) (n v : Nat) : Nat := sm w n - sm w (v + 1)
def dg (w : Nat → Nat) (n c v : Nat) : Nat := c / 2 ^ shf w n v % 2 ^ w v
section FM
variable {n : Nat} {a : Nat → Nat → Bool} {w : Nat → Nat}
theorem sm_le_of_lt {f : Nat → Nat} : ∀ {i m : Nat}, i ≤ m → sm f i ≤ sm f m
  | i, 0, h => by obtain rfl : i = 0 := by omega
                  exact Nat.le_refl _
  | i, m + 1, h => by
    rcases Nat.lt_or_ge i (m + 1) with h1 | h1
    · have := sm_le_of_lt (f := f) (i := i) (m := m) (by omega)
      rw [sm]; omega
    · obtain rfl : i = m + 1 := by omega
      exact Nat.le_refl _
theorem shf_lt {u v : Nat} (h : u < v) (hv : v < n) : shf w n v + w v ≤ shf w n u := by
  unfold shf
  have h1 := sm_le_of_lt (f := w) (show u + 1 ≤ v by omega)
  have h2 : sm w (v + 1) = sm w v + w v := rfl
  have h3 := sm_le_of_lt (f := w) (show v + 1 ≤ n by omega)
  omega
theorem shf_top {v : Nat} (hv : v < n) : shf w n v + w v ≤ sm w n := by
  unfold shf
  have h2 : sm w (v + 1) = sm w v + w v := rfl
  have h3 := sm_le_of_lt (f := w) (show v + 1 ≤ n by omega)
  omega
theorem dg_lt (c v : Nat) : dg w n c v < 2 ^ w v := Nat.mod_lt _ (Nat.two_pow_pos _)
theorem pw_add (i j : Nat) : 2 ^ (i + j) = 2 ^ i * 2 ^ j := Nat.pow_add 2 i j
/-- one more at a vertex -/
theorem dg_add {c v : Nat} (hv : v < n) (hr : dg w n c v + 1 < 2 ^ w v) {u : Nat} (hu : u < n) : dg w n (c + 2 ^ shf w n v) u = if u = v then dg w n c v + 1 else dg w n c u := by
  unfold dg at hr ⊢
  have hA : 0 < 2 ^ shf w n v := Nat.two_pow_pos _
  have e1 : (c + 2 ^ shf w n v) / 2 ^ shf w n v = c / 2 ^ shf w n v + 1 := Nat.add_div_right _ hA
  by_cases h1 : u = v
  · subst h1
    rw [if_pos rfl, e1]
    have hW : 0 < 2 ^ w u := Nat.two_pow_pos _
    rw [Nat.add_mod, Nat.mod_eq_of_lt (show 1 < 2 ^ w u by omega), Nat.mod_eq_of_lt hr]
  · rw [if_neg h1]
    rcases Nat.lt_or_ge u v with h2 | h2
    · -- higher digits
      have h3 := shf_lt (w := w) (n := n) h2 hv
      obtain ⟨k, hk⟩ : ∃ k, shf w n u = shf w n v + (w v + k) := ⟨shf w n u - shf w n v - w v, by omega⟩
      have e2 : (c + 2 ^ shf w n v) / 2 ^ shf w n u = c / 2 ^ shf w n u := by
        rw [hk, pw_add, pw_add, ← Nat.div_div_eq_div_mul, ← Nat.div_div_eq_div_mul, ← Nat.div_div_eq_div_mul, ← Nat.div_div_eq_div_mul, e1]
        congr 1
        generalize c / 2 ^ shf w n v = x at *
        generalize 2 ^ w v = W at *
        have h5 : x = W * (x / W) + x % W := (Nat.div_add_mod x W).symm
        have h6 : (x + 1) / W = x / W := by
          rw [show x + 1 = x % W + 1 + W * (x / W) by omega, Nat.add_mul_div_left _ _ (by omega), Nat.div_eq_of_lt hr, Nat.zero_add]
        exact h6
      rw [e2]
    · have h3 := shf_lt (w := w) (n := n) (show v < u by omega) hu
      obtain ⟨k, hk⟩ : ∃ k, shf w n v = shf w n u + (w u + k) := ⟨shf w n v - shf w n u - w u, by omega⟩
      have hB : 0 < 2 ^ shf w n u := Nat.two_pow_pos _
      rw [hk, pw_add, pw_add, Nat.add_mul_div_left _ _ hB, Nat.add_mul_mod_self_left]
theorem top_bound {c : Nat} (hc : c < 2 ^ sm w n) {v : Nat} (hv : v < n) (hr : dg w n c v + 1 < 2 ^ w v) : c + 2 ^ shf w n v < 2 ^ sm w n := by
  have h1 := shf_top (w := w) hv
  obtain ⟨k, hk⟩ : ∃ k, sm w n = shf w n v + (w v + k) := ⟨sm w n - shf w n v - w v, by omega⟩
  unfold dg at hr
  rw [hk, pw_add, pw_add] at hc ⊢
  have hA : 0 < 2 ^ shf w n v := Nat.two_pow_pos _
  generalize 2 ^ shf w n v = A at *
  generalize 2 ^ w v = W at *
  generalize 2 ^ k = K at *
  have h2 : c / A < W * K := Nat.div_lt_of_lt_mul hc
  have h3 : c / A + 1 < W * K := by
    have h4 : c / A / W < K := Nat.div_lt_of_lt_mul h2
    have h5 : c / A = W * (c / A / W) + c / A % W := (Nat.div_add_mod (c / A) W).symm
    have h6 : W * (c / A / W) + W ≤ W * K := by
      have := Nat.mul_le_mul_left W (show c / A / W + 1 ≤ K by omega)
      rw [Nat.mul_add, Nat.mul_one] at this
      exact this
    omega
  have h7 : c = A * (c / A) + c % A := (Nat.div_add_mod c A).symm
  have h8 : c % A < A := Nat.mod_lt _ hA
  have h9 : A * (c / A + 2) ≤ A * (W * K) := Nat.mul_le_mul_left A (by omega)
  rw [Nat.mul_add] at h9
  omega
/-- one fewer at a vertex -/
theorem dg_sub {c v : Nat} (hv : v < n) (h1 : 1 ≤ dg w n c v) : 2 ^ shf w n v ≤ c ∧ dg w n (c - 2 ^ shf w n v) v + 1 < 2 ^ w v ∧ ∀ u, u < n → dg w n (c - 2 ^ shf w n v) u = if u = v then dg w n c v - 1 else dg w n c u := by
  have hA : 0 < 2 ^ shf w n v := Nat.two_pow_pos _
  have h2 : 2 ^ shf w n v ≤ c := by
    rcases Nat.lt_or_ge c (2 ^ shf w n v) with h3 | h3
    · unfold dg at h1
      rw [Nat.div_eq_of_lt h3] at h1
      simp at h1
    · exact h3
  have hd := dg_lt (w := w) (n := n) c v
  have h4 : dg w n (c - 2 ^ shf w n v) v + 1 = dg w n c v := by
    unfold dg at h1 ⊢
    have e1 : c / 2 ^ shf w n v = (c - 2 ^ shf w n v) / 2 ^ shf w n v + 1 := by
      conv => lhs; rw [show c = c - 2 ^ shf w n v + 2 ^ shf w n v by omega]
      exact Nat.add_div_right _ hA
    rw [e1] at h1 ⊢
    generalize (c - 2 ^ shf w n v) / 2 ^ shf w n v = x at *
    have hW : 0 < 2 ^ w v := Nat.two_pow_pos _
    generalize 2 ^ w v = W at *
    have h5 : x % W < W := Nat.mod_lt _ hW
    rcases Nat.lt_or_ge (x % W + 1) W with h6 | h6
    · rw [Nat.add_mod, Nat.mod_eq_of_lt (show 1 < W by omega), Nat.mod_eq_of_lt h6]
    · exfalso
      have h7 : (x + 1) % W = 0 := by
        have h8 : x + 1 = W * (x / W) + W := by
          have := Nat.div_add_mod x W; omega
        rw [h8, Nat.add_mod_right, Nat.mul_mod_right]
      omega
  refine ⟨h2, by omega, fun u hu => ?_⟩
  have h5 := dg_add (w := w) (n := n) (c := c - 2 ^ shf w n v) hv (by omega) hu
  rw [Nat.sub_add_cancel h2] at h5
  by_cases h6 : u = v
  · subst h6; rw [if_pos rfl]; omega
  · rw [if_neg h6] at h5 ⊢; exact h5.symm
theorem dg_ext : ∀ {n : Nat} {c d : Nat}, c < 2 ^ sm w n → d < 2 ^ sm w n → (∀ v, v < n → dg w n c v = dg w n d v) → c = d
  | 0, c, d, hc, hd, _ => by
    have : sm w 0 = 0 := rfl
    rw [this, Nat.pow_zero] at hc hd
    omega
  | n + 1, c, d, hc, hd, h => by
    have e0 : sm w (n + 1) = sm w n + w n := rfl
    have key : ∀ x v, v < n → dg w (n + 1) x v = dg w n (x / 2 ^ w n) v := by
      intro x v hv
      unfold dg
      have h3 := sm_le_of_lt (f := w) (show v + 1 ≤ n by omega)
      rw [show shf w (n + 1) v = w n + shf w n v by unfold shf; omega, pw_add, Nat.div_div_eq_div_mul]
    have h1 : c / 2 ^ w n = d / 2 ^ w n := by
      rw [e0, Nat.add_comm, pw_add] at hc hd
      refine dg_ext (n := n) (Nat.div_lt_of_lt_mul hc) (Nat.div_lt_of_lt_mul hd) fun v hv => ?_
      rw [← key c v hv, ← key d v hv]
      exact h v (by omega)
    have h2 := h n (by omega)
    unfold dg at h2
    rw [show shf w (n + 1) n = 0 by unfold shf; omega, Nat.pow_zero, Nat.div_one, Nat.div_one] at h2
    have h3 := Nat.div_add_mod c (2 ^ w n)
    have h4 := Nat.div_add_mod d (2 ^ w n)
    rw [h1, h2] at h3
    omega
/-- all pebbles of a pile -/
def tot (w : Nat → Nat) (n c : Nat) : Nat := sm (dg w n c) n
theorem tot_add {c v : Nat} (hv : v < n) (hr : dg w n c v + 1 < 2 ^ w v) : tot w n (c + 2 ^ shf w n v) = tot w n c + 1 := by
  have h1 := sm_upd (f := dg w n c) (g := dg w n (c + 2 ^ shf w n v)) hv (fun u hu hne => by rw [dg_add hv hr hu, if_neg hne])
  rw [dg_add hv hr hv, if_pos rfl] at h1
  unfold tot
  omega
/-- a move, in digits -/
def mvc (w : Nat → Nat) (n c v o : Nat) : Nat := c - 2 * 2 ^ shf w n v + 2 ^ shf w n o
theorem mv_ok {c v o : Nat} (hc : c < 2 ^ sm w n) (hv : v < n) (ho : o < n) (hne : ¬ v = o) (h2 : 2 ≤ dg w n c v) (hr : dg w n c o + 1 < 2 ^ w o) : mvc w n c v o < 2 ^ sm w n ∧ 2 * 2 ^ shf w n v ≤ c ∧ (∀ u, u < n → dg w n (mvc w n c v o) u = if u = o then dg w n c o + 1 else if u = v then dg w n c v - 2 else dg w n c u) ∧ tot w n (mvc w n c v o) + 1 = tot w n c := by
  obtain ⟨p1, p2, p3⟩ := dg_sub hv (show 1 ≤ dg w n c v by omega)
  have p4 := p3 v hv
  rw [if_pos rfl] at p4
  obtain ⟨q1, q2, q3⟩ := dg_sub (w := w) (n := n) (c := c - 2 ^ shf w n v) hv (by omega)
  have e1 : c - 2 * 2 ^ shf w n v = c - 2 ^ shf w n v - 2 ^ shf w n v := by omega
  have q4 : dg w n (c - 2 ^ shf w n v - 2 ^ shf w n v) o = dg w n c o := by
    rw [q3 o ho, if_neg (fun h => hne h.symm), p3 o ho, if_neg (fun h => hne h.symm)]
  have hr2 : dg w n (c - 2 ^ shf w n v - 2 ^ shf w n v) o + 1 < 2 ^ w o := by rw [q4]; exact hr
  unfold mvc
  rw [e1]
  refine ⟨top_bound (by omega) ho hr2, by omega, fun u hu => ?_, ?_⟩
  · rw [dg_add ho hr2 hu, q4]
    by_cases h3 : u = o
    · rw [if_pos h3, if_pos h3]
    · rw [if_neg h3, if_neg h3, q3 u hu]
      by_cases h4 : u = v
      · rw [if_pos h4, if_pos h4]; omega
      · rw [if_neg h4, if_neg h4, p3 u hu, if_neg h4]
  · rw [tot_add ho hr2]
    have t1 := tot_add (c := c - 2 ^ shf w n v) hv p2
    have t2 := tot_add (c := c - 2 ^ shf w n v - 2 ^ shf w n v) hv q2
    rw [Nat.sub_add_cancel p1] at t1
    rw [Nat.sub_add_cancel q1] at t2
    omega
/-- failing, by the number of moves looked ahead -/
def fl (n : Nat) (a : Nat → Nat → Bool) (w : Nat → Nat) : Nat → Nat → Bool
  | 0, _ => true
  | k + 1, c => al (fun v => decide (dg w n c v < 2) || al (fun o => !a v o || (decide (dg w n c o + 1 < 2 ^ w o) && fl n a w k (mvc w n c v o))) n) n
def ir (n : Nat) (a : Nat → Nat → Bool) : Prop := ∀ v o, v < n → o < n → a v o = true → ¬ v = o
theorem fl_succ {k c : Nat} : fl n a w (k + 1) c = true ↔ ∀ v o, v < n → o < n → 2 ≤ dg w n c v → a v o = true → dg w n c o + 1 < 2 ^ w o ∧ fl n a w k (mvc w n c v o) = true := by
  rw [fl, al_iff]
  constructor
  · intro h v o hv ho h2 ha
    have h3 := h v hv
    rw [Bool.or_eq_true, decide_eq_true_eq] at h3
    rcases h3 with h3 | h3
    · omega
    · rw [al_iff] at h3
      have h4 := h3 o ho
      rw [ha] at h4
      simpa using h4
  · intro h v hv
    rw [Bool.or_eq_true, decide_eq_true_eq]
    rcases Nat.lt_or_ge (dg w n c v) 2 with h3 | h3
    · exact .inl h3
    · right
      rw [al_iff]
      intro o ho
      cases ha : a v o with
      | false => rfl
      | true =>
        have := h v o hv ho h3 ha
        simpa using this
theorem fl_st (hir : ir n a) : ∀ (m c k j : Nat), c < 2 ^ sm w n → tot w n c ≤ m → tot w n c ≤ k → tot w n c ≤ j → fl n a w k c = true → fl n a w j c = true
  | m, c, k, 0, hc, hm, hk, hj, h => rfl
  | m, c, k, j + 1, hc, hm, hk, hj, h => by
    rw [fl_succ]
    intro v o hv ho h2 ha
    have hpos : 2 ≤ tot w n c := Nat.le_trans h2 (sm_mem (f := dg w n c) hv)
    obtain ⟨k, rfl⟩ : ∃ q, k = q + 1 := ⟨k - 1, by omega⟩
    rw [fl_succ] at h
    obtain ⟨h3, h4⟩ := h v o hv ho h2 ha
    refine ⟨h3, ?_⟩
    obtain ⟨q1, q2, q3, q4⟩ := mv_ok hc hv ho (hir v o hv ho ha) h2 h3
    obtain ⟨m, rfl⟩ : ∃ q, m = q + 1 := ⟨m - 1, by omega⟩
    exact fl_st hir m _ k j q1 (by omega) (by omega) (by omega) h4
/-- a pile that fails -/
def fa (n : Nat) (a : Nat → Nat → Bool) (w : Nat → Nat) (c : Nat) : Bool := fl n a w (tot w n c) c
theorem fa_iff (hir : ir n a) {c : Nat} (hc : c < 2 ^ sm w n) : fa n a w c = true ↔ ∀ v o, v < n → o < n → 2 ≤ dg w n c v → a v o = true → dg w n c o + 1 < 2 ^ w o ∧ fa n a w (mvc w n c v o) = true := by
  unfold fa
  have h0 : fl n a w (tot w n c) c = true ↔ fl n a w (tot w n c + 1) c = true :=
    ⟨fun h => fl_st hir _ c _ _ hc (Nat.le_refl _) (Nat.le_refl _) (by omega) h, fun h => fl_st hir _ c _ _ hc (Nat.le_refl _) (by omega) (Nat.le_refl _) h⟩
  rw [h0, fl_succ]
  constructor
  · intro h v o hv ho h2 ha
    obtain ⟨h3, h4⟩ := h v o hv ho h2 ha
    obtain ⟨q1, q2, q3, q4⟩ := mv_ok hc hv ho (hir v o hv ho ha) h2 h3
    exact ⟨h3, fl_st hir _ _ _ _ q1 (Nat.le_refl _) (by omega) (Nat.le_refl _) h4⟩
  · intro h v o hv ho h2 ha
    obtain ⟨h3, h4⟩ := h v o hv ho h2 ha
    obtain ⟨q1, q2, q3, q4⟩ := mv_ok hc hv ho (hir v o hv ho ha) h2 h3
    exact ⟨h3, fl_st hir _ _ _ _ q1 (Nat.le_refl _) (Nat.le_refl _) (by omega) h4⟩
/-- with a pebble fewer it fails as well -/
theorem fa_mono (hir : ir n a) : ∀ (m c v : Nat), tot w n c ≤ m → c < 2 ^ sm w n → v < n → dg w n c v + 1 < 2 ^ w v → fa n a w (c + 2 ^ shf w n v) = true → fa n a w c = true
  | m, c, v, hm, hc, hv, hr, h => by
    have hc2 := top_bound hc hv hr
    rw [fa_iff hir hc2] at h
    rw [fa_iff hir hc]
    intro u o hu ho h2 ha
    have huo := hir u o hu ho ha
    have d1 := dg_add hv hr hu
    have d2 := dg_add hv hr ho
    obtain ⟨h3, h4⟩ := h u o hu ho (by rw [d1]; split <;> simp_all <;> omega) ha
    have h3' : dg w n c o + 1 < 2 ^ w o := by
      rw [d2] at h3
      by_cases h5 : o = v
      · subst h5; exact hr
      · rw [if_neg h5] at h3; exact h3
    refine ⟨h3', ?_⟩
    obtain ⟨q1, q2, q3, q4⟩ := mv_ok hc hu ho huo h2 h3'
    have hpos : 2 ≤ tot w n c := Nat.le_trans h2 (sm_mem (f := dg w n c) hu)
    obtain ⟨m, rfl⟩ : ∃ q, m = q + 1 := ⟨m - 1, by omega⟩
    refine fa_mono hir m (mvc w n c u o) v (by omega) q1 hv ?_ ?_
    · rw [q3 v hv]
      by_cases h5 : v = o
      · subst h5
        rw [d2, if_pos rfl] at h3
        rw [if_pos rfl]; exact h3
      · rw [if_neg h5]
        by_cases h6 : v = u
        · subst h6; rw [if_pos rfl]; omega
        · rw [if_neg h6]; exact hr
    · have e1 : mvc w n c u o + 2 ^ shf w n v = mvc w n (c + 2 ^ shf w n v) u o := by
        unfold mvc
        generalize 2 ^ shf w n v = V at *
        generalize 2 ^ shf w n u = U at *
        omega
      rw [e1]; exact h4
/-! a chain of vertices to the target -/
def sx (q : Nat → Nat) (par : Nat → Nat) : Nat → Nat → Nat
  | 0, _ => 0
  | d + 1, v => q v + 2 * sx q par d (par v)
/-- parents: one nearer to the target -/
def Pa (n : Nat) (a : Nat → Nat → Bool) (w : Nat → Nat) (par : Nat → Nat) : Prop := ∀ v, v < n → 1 ≤ w v → par v < n ∧ a v (par v) = true ∧ w (par v) + 1 = w v
theorem sx_cong {q q2 : Nat → Nat} {par : Nat → Nat} (hp : Pa n a w par) : ∀ {d v : Nat}, v < n → w v = d → (∀ u, u < n → w u ≤ d → q u = q2 u) → sx q par d v = sx q2 par d v
  | 0, _, _, _, _ => rfl
  | d + 1, v, hv, hd, h => by
    obtain ⟨h1, -, h3⟩ := hp v hv (by omega)
    rw [sx, sx, h v hv (by omega), sx_cong hp h1 (by omega) (fun u hu hu2 => h u hu (by omega))]
/-- a big sum: somewhere on the chain lie two -/
theorem sx_two {q : Nat → Nat} {par : Nat → Nat} (hp : Pa n a w par) : ∀ {d v : Nat}, v < n → w v = d → 2 ^ d ≤ sx q par d v → ∃ u, u < n ∧ 1 ≤ w u ∧ w u ≤ d ∧ 2 ≤ q u ∧ ∀ q2 : Nat → Nat, (∀ x, x < n → ¬ x = u → ¬ x = par u → q2 x = q x) → q2 u + 2 = q u → (1 ≤ w (par u) → q2 (par u) = q (par u) + 1) → 1 ≤ w (par u) → sx q2 par d v = sx q par d v
  | 0, v, hv, hd, h => by
    rw [sx] at h
    simp at h
  | d + 1, v, hv, hd, h => by
    obtain ⟨h1, h2, h3⟩ := hp v hv (by omega)
    rw [sx] at h
    by_cases h4 : 2 ≤ q v
    · refine ⟨v, hv, by omega, by omega, h4, fun q2 hq hu hpq hw => ?_⟩
      obtain ⟨d, rfl⟩ : ∃ x, d = x + 1 := ⟨d - 1, by omega⟩
      obtain ⟨h5, h6, h7⟩ := hp (par v) h1 hw
      have e1 : sx q2 par d (par (par v)) = sx q par d (par (par v)) := sx_cong hp h5 (by omega) (fun u hu2 hu3 => hq u hu2 (fun z => by subst z; omega) (fun z => by subst z; omega))
      have := hpq hw
      rw [sx, sx, sx, sx, e1]
      omega
    · have h5 : 2 ^ d ≤ sx q par d (par v) := by
        rw [Nat.pow_succ] at h; omega
      obtain ⟨u, hu, hu1, hu2, hu3, hu4⟩ := sx_two hp h1 (by omega) h5
      refine ⟨u, hu, hu1, by omega, hu3, fun q2 hq hu5 hpq hw => ?_⟩
      obtain ⟨h6, -, h8⟩ := hp u hu hu1
      rw [sx, sx, hu4 q2 hq hu5 hpq hw, hq v hv (fun z => by subst z; omega) (fun z => by subst z; omega)]
/-- what fails has small sums along each chain -/
theorem fa_sx (hir : ir n a) {par : Nat → Nat} (hp : Pa n a w par) : ∀ (m c v : Nat), tot w n c ≤ m → c < 2 ^ sm w n → v < n → fa n a w c = true → sx (dg w n c) par (w v) v < 2 ^ w v
  | m, c, v, hm, hc, hv, h => by
    rcases Nat.lt_or_ge (sx (dg w n c) par (w v) v) (2 ^ w v) with h1 | h1
    · exact h1
    · exfalso
      obtain ⟨u, hu, hu1, hu2, hu3, hu4⟩ := sx_two hp hv rfl h1
      obtain ⟨p1, p2, p3⟩ := hp u hu hu1
      have h' := h
      rw [fa_iff hir hc] at h'
      obtain ⟨h3, h4⟩ := h' u (par u) hu p1 hu3 p2
      have hw : 1 ≤ w (par u) := by
        rcases Nat.lt_or_ge 0 (w (par u)) with q | q
        · exact q
        · rw [show w (par u) = 0 by omega, Nat.pow_zero] at h3; omega
      have hne := hir u (par u) hu p1 p2
      obtain ⟨q1, q2, q3, q4⟩ := mv_ok hc hu p1 hne hu3 h3
      have e1 := hu4 (dg w n (mvc w n c u (par u))) (fun x hx h5 h6 => by rw [q3 x hx, if_neg h6, if_neg h5]) (by rw [q3 u hu, if_neg hne, if_pos rfl]; omega) (fun _ => by rw [q3 _ p1, if_pos rfl]) hw
      have hpos : 2 ≤ tot w n c := Nat.le_trans hu3 (sm_mem (f := dg w n c) hu)
      obtain ⟨m, rfl⟩ : ∃ q, m = q + 1 := ⟨m - 1, by omega⟩
      have := fa_sx hir hp m (mvc w n c u (par u)) v (by omega) q1 hv h4
      omega
end FM
