/-! ===== THE CLASS'S NUMBER OF A TREE ===== -/
section TREE
variable {n E t : Nat} {par : Nat → Nat}
theorem mxl_att {f : Nat → Nat} {c : Nat} : ∀ i, mxl f c i = c ∨ ∃ j, j < i ∧ mxl f c i = f j
  | 0 => .inl rfl
  | i + 1 => by
    rw [mxl]
    rcases Nat.le_total (mxl f c i) (f i) with h | h
    · exact .inr ⟨i, by omega, Nat.max_eq_right h⟩
    · rw [Nat.max_eq_left h]
      rcases mxl_att (f := f) (c := c) i with k | ⟨j, a, b⟩
      · exact .inl k
      · exact .inr ⟨j, by omega, b⟩
theorem if_iff {P Q : Prop} [Decidable P] [Decidable Q] (h : P ↔ Q) (a b : Nat) : (if P then a else b) = if Q then a else b := by
  by_cases q : P
  · rw [if_pos q, if_pos (h.1 q)]
  · rw [if_neg q, if_neg (fun k => q (h.2 k))]
/-- how deep the tree is below `v` -/
def hh (n E t : Nat) (par : Nat → Nat) (v : Nat) : Nat := mxl (fun x => if ds n E t v ≤ ds n E t x ∧ an par (ds n E t x - ds n E t v) x = v then ds n E t x - ds n E t v else 0) 0 n
theorem hh_ge (hT : TR n E t par) {x i : Nat} (hx : x < n) (hi : i ≤ ds n E t x) : i ≤ hh n E t par (an par i x) := by
  obtain ⟨_, b⟩ := hT.up hx hi
  have := mxl_mem (f := fun y => if ds n E t (an par i x) ≤ ds n E t y ∧ an par (ds n E t y - ds n E t (an par i x)) y = an par i x then ds n E t y - ds n E t (an par i x) else 0) (c := 0) hx
  have e : ds n E t x - ds n E t (an par i x) = i := by omega
  simp only [e] at this
  rw [if_pos ⟨by omega, trivial⟩] at this
  exact this
theorem hh_ex (hT : TR n E t par) {v : Nat} (hv : v < n) : ∃ x, x < n ∧ hh n E t par v ≤ ds n E t x ∧ an par (hh n E t par v) x = v := by
  rcases mxl_att (f := fun x => if ds n E t v ≤ ds n E t x ∧ an par (ds n E t x - ds n E t v) x = v then ds n E t x - ds n E t v else 0) (c := 0) n with k | ⟨x, hx, k⟩
  · have e : hh n E t par v = 0 := k
    exact ⟨v, hv, by omega, by rw [e]; rfl⟩
  · by_cases q : ds n E t v ≤ ds n E t x ∧ an par (ds n E t x - ds n E t v) x = v
    · have e : hh n E t par v = ds n E t x - ds n E t v := k.trans (if_pos q)
      exact ⟨x, hx, by omega, by rw [e]; exact q.2⟩
    · have e : hh n E t par v = 0 := k.trans (if_neg q)
      exact ⟨v, hv, by omega, by rw [e]; rfl⟩
/-- a part of the tree with the root -/
def SC (n t : Nat) (par : Nat → Nat) (s : Nat) : Prop := s < 2 ^ n ∧ s.testBit t = true ∧ ∀ v, v < n → ¬ v = t → s.testBit v = true → s.testBit (par v) = true
theorem SC.up {s : Nat} (hS : SC n t par s) (hT : TR n E t par) {v : Nat} (hv : v < n) (hs : s.testBit v = true) : ∀ {j}, j ≤ ds n E t v → s.testBit (an par j v) = true
  | 0, _ => hs
  | j + 1, hj => by
    have ih := SC.up hS hT hv hs (j := j) (by omega)
    obtain ⟨a, b⟩ := hT.up hv (j := j) (by omega)
    exact hS.2.2 _ a (fun q => by have := (hT.2.1 _ a).2 q; omega) ih
theorem mnl_mem {f : Nat → Nat} {s c v : Nat} (hs : s.testBit v = true) : ∀ {i}, v < i → mnl f s c i ≤ f v
  | 0, h => absurd h (Nat.not_lt_zero _)
  | i + 1, h => by
    rw [mnl]
    by_cases q : v = i
    · subst q; rw [if_pos hs]; omega
    · have := mnl_mem (f := f) (c := c) hs (i := i) (by omega)
      split <;> omega
theorem mnl_ge {f : Nat → Nat} {s c k : Nat} (hc : k ≤ c) : ∀ {i}, (∀ v, v < i → s.testBit v = true → k ≤ f v) → k ≤ mnl f s c i
  | 0, _ => hc
  | i + 1, h => by
    have a := mnl_ge (f := f) (s := s) hc (i := i) (fun v hv => h v (by omega))
    rw [mnl]
    split
    · rename_i q; have := h i (by omega) q; omega
    · exact a
/-- how far `x` is from the part -/
theorem TR.dl (hT : TR n E t par) (hG : Gr n E) (hc : Cn n E) (ht : t < n) {s x : Nat} (hS : SC n t par s) (hx : x < n) :
    ∃ k, k ≤ ds n E t x ∧ mnl (ds n E x) s n n = k ∧ s.testBit (an par k x) = true ∧ ∀ j, j < k → ¬ s.testBit (an par j x) = true := by
  have hw := hc.ds hG ht hx
  have h1 := hG.1
  obtain ⟨k, a, b, c⟩ := least (P := fun k => s.testBit (an par k x) = true) (m := ds n E t x + 1) ⟨ds n E t x, by omega, by
    obtain ⟨p, q⟩ := hT.up hx (j := ds n E t x) (Nat.le_refl _)
    have : an par (ds n E t x) x = t := (hT.2.1 _ p).1 (by omega)
    rw [this]; exact hS.2.1⟩
  refine ⟨k, by omega, ?_, b, c⟩
  obtain ⟨p, _⟩ := hT.up hx (j := k) (by omega)
  have u1 := mnl_mem (f := ds n E x) (c := n) b p
  rw [hT.dan hG hc ht hx (by omega)] at u1
  have u2 : k ≤ mnl (ds n E x) s n n := mnl_ge (by omega) fun y hy hsy => by
    rcases Nat.lt_or_ge (ds n E x y) k with h | h
    · have h2 : (bl n E x (ds n E x y)).testBit y = true := (ds_le (TR.d5 hG hc hx hy)).2 (Nat.le_refl _)
      obtain ⟨_, i, hi, e⟩ := hT.bal hG hx (k := ds n E x y) (by omega) h2
      have := hS.up hT hy hsy hi
      rw [e] at this
      exact absurd this (c _ h)
    · exact h
  omega
theorem amx_max (g : Nat → Nat) : ∀ i j, j ≤ i → g j ≤ g (amx g i)
  | 0, j, h => by obtain rfl : j = 0 := by omega
                  exact Nat.le_refl _
  | i + 1, j, h => by
    have ih := amx_max g i
    rw [amx]
    by_cases q : g (i + 1) ≤ g (amx g i)
    · rw [if_pos q]
      by_cases w : j = i + 1
      · subst w; exact q
      · exact ih j (by omega)
    · rw [if_neg q]
      by_cases w : j = i + 1
      · subst w; exact Nat.le_refl _
      · have := ih j (by omega); omega
/-- the weight of a part -/
def wS (n E t : Nat) (par : Nat → Nat) (s : Nat) : Nat := sm (fun v => if s.testBit v = true ∧ ¬ v = t then 2 ^ hh n E t par v else 0) n
/-- a longest way added -/
theorem TR.add (hT : TR n E t par) (hG : Gr n E) (hc : Cn n E) (ht : t < n) {s s' x k : Nat} (hS : SC n t par s) (hx : x < n) (hk : mnl (ds n E x) s n n = k) (hmax : ∀ y, y < n → mnl (ds n E y) s n n ≤ k) (h2 : s' < 2 ^ n)
    (hs' : ∀ v, v < n → (s'.testBit v = true ↔ s.testBit v = true ∨ ds n E t v + ds n E v x = ds n E t x)) : SC n t par s' ∧ wS n E t par s' + 1 = wS n E t par s + 2 ^ k ∧ (s'.testBit x = true) := by
  obtain ⟨k', a, b, c, d⟩ := hT.dl hG hc ht hS hx
  obtain rfl : k' = k := b.symm.trans hk
  have hgt : ∀ m, m < k' → hh n E t par (an par m x) = m := fun m hm => by
    obtain ⟨p, q⟩ := hT.up hx (j := m) (by omega)
    have g1 := hh_ge hT hx (i := m) (by omega)
    obtain ⟨y, hy, hi, e⟩ := hh_ex hT p
    generalize hh n E t par (an par m x) = i at *
    rcases Nat.lt_or_ge m i with h | h
    · exfalso
      obtain ⟨l, a1, b1, c1, d1⟩ := hT.dl hG hc ht hS hy
      have hml := hmax y hy
      have nm : ¬ s.testBit (an par m x) = true := d m hm
      rcases Nat.lt_or_ge i l with w | w
      · have e2 : an par l y = an par (l - i + m) x := by
          rw [show l = (l - i) + i by omega, an_add, e, ← an_add]
          congr 1
          omega
        rw [e2] at c1
        rcases Nat.lt_or_ge (l - i + m) k' with z | z
        · exact d _ z c1
        · omega
      · obtain ⟨p1, q1⟩ := hT.up hy a1
        have := hS.up hT p1 c1 (j := i - l) (by omega)
        rw [← an_add, show i - l + l = i by omega, e] at this
        exact nm this
    · omega
  have hpath : ∀ v, v < n → (ds n E t v + ds n E v x = ds n E t x ↔ ds n E t v ≤ ds n E t x ∧ an par (ds n E t x - ds n E t v) x = v) := fun v hv => hT.path hG hc ht hx hv
  refine ⟨⟨h2, (hs' t ht).2 (.inl hS.2.1), fun v hv hvt hsv => ?_⟩, ?_, (hs' x hx).2 (.inr ?_)⟩
  · obtain ⟨p1, _, p3⟩ := hT.pa hv hvt
    refine (hs' _ p1).2 ?_
    rcases (hs' v hv).1 hsv with h | h
    · exact .inl (hS.2.2 v hv hvt h)
    · obtain ⟨q1, q2⟩ := (hpath v hv).1 h
      refine .inr ((hpath _ p1).2 ⟨by omega, ?_⟩)
      rw [show ds n E t x - ds n E t (par v) = ds n E t x - ds n E t v + 1 by omega, an, q2]
  · have key : ∀ m, m ≤ k' → sm (fun v => if (s.testBit v = true ∨ (ds n E t v ≤ ds n E t x ∧ an par (ds n E t x - ds n E t v) x = v ∧ ds n E t x - ds n E t v < m)) ∧ ¬ v = t then 2 ^ hh n E t par v else 0) n + 1 = wS n E t par s + 2 ^ m := by
      intro m
      induction m with
      | zero =>
        intro _
        congr 1
        refine sm_cong fun v _ => ?_
        by_cases q : s.testBit v = true ∧ ¬ v = t
        · rw [if_pos q, if_pos ⟨.inl q.1, q.2⟩]
        · rw [if_neg q, if_neg]
          rintro ⟨z | z, w⟩
          · exact q ⟨z, w⟩
          · omega
      | succ m ih =>
        intro hm
        have ih := ih (by omega)
        obtain ⟨p, q⟩ := hT.up hx (j := m) (by omega)
        have nm : ¬ s.testBit (an par m x) = true := d m (by omega)
        have nt : ¬ an par m x = t := fun z => by rw [z] at nm; exact nm hS.2.1
        have hm2 := hgt m (by omega)
        have st := sm_upd (f := fun v => if (s.testBit v = true ∨ (ds n E t v ≤ ds n E t x ∧ an par (ds n E t x - ds n E t v) x = v ∧ ds n E t x - ds n E t v < m)) ∧ ¬ v = t then 2 ^ hh n E t par v else 0) (g := fun v => if (s.testBit v = true ∨ (ds n E t v ≤ ds n E t x ∧ an par (ds n E t x - ds n E t v) x = v ∧ ds n E t x - ds n E t v < m + 1)) ∧ ¬ v = t then 2 ^ hh n E t par v else 0) p (fun u hu hne => by
          have : (ds n E t u ≤ ds n E t x ∧ an par (ds n E t x - ds n E t u) x = u ∧ ds n E t x - ds n E t u < m + 1) ↔ (ds n E t u ≤ ds n E t x ∧ an par (ds n E t x - ds n E t u) x = u ∧ ds n E t x - ds n E t u < m) := by
            constructor
            · rintro ⟨z1, z2, z3⟩
              refine ⟨z1, z2, ?_⟩
              rcases Nat.lt_or_ge (ds n E t x - ds n E t u) m with z | z
              · exact z
              · rw [show ds n E t x - ds n E t u = m by omega] at z2
                exact absurd z2.symm hne
            · rintro ⟨z1, z2, z3⟩
              exact ⟨z1, z2, by omega⟩
          exact if_iff (and_congr (or_congr Iff.rfl this.symm.symm) Iff.rfl) _ _)
        have e : ds n E t x - ds n E t (an par m x) = m := by omega
        rw [e, if_neg (show ¬ ((s.testBit (an par m x) = true ∨ (ds n E t (an par m x) ≤ ds n E t x ∧ an par m x = an par m x ∧ m < m)) ∧ ¬ an par m x = t) by
          rintro ⟨z | z, _⟩
          · exact nm z
          · omega), if_pos ⟨.inr ⟨by omega, rfl, by omega⟩, nt⟩, hm2] at st
        rw [Nat.pow_succ]
        omega
    rw [← key k' (Nat.le_refl _)]
    congr 1
    refine sm_cong fun v hv => ?_
    have : (s'.testBit v = true) ↔ (s.testBit v = true ∨ (ds n E t v ≤ ds n E t x ∧ an par (ds n E t x - ds n E t v) x = v ∧ ds n E t x - ds n E t v < k')) := by
      rw [hs' v hv, hpath v hv]
      constructor
      · rintro (h | ⟨z1, z2⟩)
        · exact .inl h
        · rcases Nat.lt_or_ge (ds n E t x - ds n E t v) k' with z | z
          · exact .inr ⟨z1, z2, z⟩
          · obtain ⟨p1, q1⟩ := hT.up hx a
            have := hS.up hT p1 c (j := ds n E t x - ds n E t v - k') (by omega)
            rw [← an_add, show ds n E t x - ds n E t v - k' + k' = ds n E t x - ds n E t v by omega, z2] at this
            exact .inl this
      · rintro (h | ⟨z1, z2, _⟩)
        · exact .inl h
        · exact .inr ⟨z1, z2⟩
    exact if_iff (and_congr this Iff.rfl) _ _
  · rw [ds_self]
    rfl
end TREE
