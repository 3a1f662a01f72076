/-! ===== TREES ===== -/
theorem sm_add {f g : Nat → Nat} : ∀ n, sm (fun i => f i + g i) n = sm f n + sm g n
  | 0 => rfl
  | n + 1 => by
    have := sm_add (f := f) (g := g) n
    simp only [sm]
    omega
theorem sm_zero {f : Nat → Nat} : ∀ {n}, (∀ i, i < n → f i = 0) → sm f n = 0
  | 0, _ => rfl
  | n + 1, h => by
    have a := sm_zero (f := f) (n := n) (fun i hi => h i (by omega))
    have b := h n (by omega)
    rw [sm, a, b]
theorem sm_one {f : Nat → Nat} {n k : Nat} (hk : k < n) (h : ∀ i, i < n → ¬ i = k → f i = 0) : sm f n = f k := by
  have := sm_upd (f := fun _ => 0) (g := f) hk (fun u hu hne => h u hu hne)
  rw [sm_zero (f := fun _ => 0) (fun _ _ => rfl)] at this
  omega
theorem sm_swap {f : Nat → Nat → Nat} (m : Nat) : ∀ n, sm (fun i => sm (f i) m) n = sm (fun j => sm (fun i => f i j) n) m
  | 0 => (sm_zero fun _ _ => rfl).symm
  | n + 1 => by
    rw [sm, sm_swap m n, ← sm_add]
    exact sm_cong fun j _ => rfl
/-- the parents of a tree with the root `t` -/
def TR (n E t : Nat) (par : Nat → Nat) : Prop := Pa n (ad E) (ds n E t) par ∧ (∀ v, v < n → (ds n E t v = 0 ↔ v = t)) ∧ ∀ u v, u < n → v < n → ad E u v = true → (¬ v = t ∧ par v = u) ∨ (¬ u = t ∧ par u = v)
section TREE
variable {n E t : Nat} {par : Nat → Nat}
theorem TR.mk (hG : Gr n E) (hc : Cn n E) (ht : t < n) (he : ec n E = n - 1) : ∃ par, TR n E t par := by
  obtain ⟨par, hp⟩ := ds_pa hG hc ht
  have hn := hG.2.1
  have h1 := hG.1
  have hz : ∀ v, v < n → (ds n E t v = 0 ↔ v = t) := fun v _ => ⟨fun h => (ds_zero h).symm, fun h => by rw [h]; exact ds_self⟩
  refine ⟨par, hp, hz, fun u0 v0 hu0 hv0 ha0 => ?_⟩
  have hpar : ∀ v, v < n → ¬ v = t → par v < n ∧ ad E v (par v) = true ∧ ad E (par v) v = true ∧ ds n E t (par v) + 1 = ds n E t v := fun v hv hvt => by
    obtain ⟨a, b, c⟩ := hp v hv (by have := (hz v hv); omega)
    exact ⟨a, b, hG.sym a b, c⟩
  refine Decidable.byContradiction fun hno => ?_
  have hne : ¬ u0 = v0 := hG.ne hv0 ha0
  have ha1 : ad E v0 u0 = true := hG.sym hv0 ha0
  let Q : Nat → Nat → Nat := fun u v => ((if ¬ v = t ∧ par v = u then 1 else 0) + (if ¬ u = t ∧ par u = v then 1 else 0)) + ((if u = u0 ∧ v = v0 then 1 else 0) + (if u = v0 ∧ v = u0 then 1 else 0))
  have hle : ∀ u v, u < n → v < n → Q u v ≤ if ad E u v = true then 1 else 0 := fun u v hu hv => by
    by_cases a1 : ¬ v = t ∧ par v = u
    · obtain ⟨p1, p2, p3, p4⟩ := hpar v hv a1.1
      have n2 : ¬ (¬ u = t ∧ par u = v) := fun a2 => by
        obtain ⟨q1, q2, q3, q4⟩ := hpar u hu a2.1
        rw [a1.2] at p4
        rw [a2.2] at q4
        omega
      have n3 : ¬ (u = u0 ∧ v = v0) := fun k => hno (.inl (by rw [← k.1, ← k.2]; exact a1))
      have n4 : ¬ (u = v0 ∧ v = u0) := fun k => hno (.inr (by rw [← k.1, ← k.2]; exact a1))
      have : ad E u v = true := by rw [← a1.2]; exact p3
      show _ + _ + (_ + _) ≤ _
      rw [if_pos a1, if_neg n2, if_neg n3, if_neg n4, if_pos this]
      omega
    · by_cases a2 : ¬ u = t ∧ par u = v
      · obtain ⟨q1, q2, q3, q4⟩ := hpar u hu a2.1
        have n3 : ¬ (u = u0 ∧ v = v0) := fun k => hno (.inr (by rw [← k.1, ← k.2]; exact a2))
        have n4 : ¬ (u = v0 ∧ v = u0) := fun k => hno (.inl (by rw [← k.1, ← k.2]; exact a2))
        have : ad E u v = true := by rw [← a2.2]; exact q2
        show _ + _ + (_ + _) ≤ _
        rw [if_neg a1, if_pos a2, if_neg n3, if_neg n4, if_pos this]
        omega
      · show _ + _ + (_ + _) ≤ _
        rw [if_neg a1, if_neg a2]
        by_cases a3 : u = u0 ∧ v = v0
        · have n4 : ¬ (u = v0 ∧ v = u0) := fun k => hne (a3.1.symm.trans k.1)
          rw [if_pos a3, if_neg n4, a3.1, a3.2, if_pos ha0]
          omega
        · rw [if_neg a3]
          by_cases a4 : u = v0 ∧ v = u0
          · rw [if_pos a4, a4.1, a4.2, if_pos ha1]
            omega
          · rw [if_neg a4]; omega
  have s1 : sm (fun u => sm (fun v => if ¬ u = t ∧ par u = v then 1 else 0) n) n = n - 1 := by
    have e : ∀ u, u < n → sm (fun v => if ¬ u = t ∧ par u = v then 1 else 0) n = if u = t then 0 else 1 := fun u hu => by
      by_cases q : u = t
      · rw [if_pos q]
        exact sm_zero fun v _ => if_neg fun k => k.1 q
      · rw [if_neg q, sm_one (k := par u) (hpar u hu q).1 (fun v _ hv => if_neg fun k => hv k.2.symm), if_pos ⟨q, rfl⟩]
    rw [sm_cong e]
    have k := sm_upd (f := fun _ => 1) (g := fun u => if u = t then 0 else 1) ht (fun u _ hu => if_neg hu)
    have c : ∀ m, sm (fun _ => 1) m = m := fun m => by
      induction m with
      | zero => rfl
      | succ m ih => rw [sm, ih]
    rw [c] at k
    simp only [if_pos] at k
    omega
  have s2 : sm (fun u => sm (fun v => if ¬ v = t ∧ par v = u then 1 else 0) n) n = n - 1 := by
    rw [sm_swap]; exact s1
  have ind : ∀ a b, a < n → b < n → sm (fun u => sm (fun v => if u = a ∧ v = b then 1 else 0) n) n = 1 := fun a b ha hb => by
    rw [sm_one (k := a) ha (fun u _ hu => sm_zero fun v _ => if_neg fun k => hu k.1), sm_one (k := b) hb (fun v _ hv => if_neg fun k => hv k.2), if_pos ⟨rfl, rfl⟩]
  have tot : sm (fun u => sm (Q u) n) n = (sm (fun u => sm (fun v => if ¬ v = t ∧ par v = u then 1 else 0) n) n + sm (fun u => sm (fun v => if ¬ u = t ∧ par u = v then 1 else 0) n) n) + (sm (fun u => sm (fun v => if u = u0 ∧ v = v0 then 1 else 0) n) n + sm (fun u => sm (fun v => if u = v0 ∧ v = u0 then 1 else 0) n) n) := by
    rw [← sm_add, ← sm_add, ← sm_add]
    refine sm_cong fun u _ => ?_
    rw [← sm_add, ← sm_add, ← sm_add]
  rw [s1, s2, ind u0 v0 hu0 hv0, ind v0 u0 hv0 hu0] at tot
  have up : sm (fun u => sm (Q u) n) n ≤ sm (fun v => pcn (nb E v) 6) n := by
    refine sm_mon fun u hu => ?_
    refine Nat.le_trans (sm_mon fun v hv => hle u v hu hv) ?_
    refine Nat.le_trans (Nat.le_of_eq ?_) (sm_le_of_lt hn)
    refine sm_cong fun v hv => ?_
    show _ = if (nb E u).testBit v = true then 1 else 0
    rw [nb_bit, decide_eq_true (by omega), Bool.true_and]
  unfold ec at he
  omega
/-- the ancestors -/
def an (par : Nat → Nat) : Nat → Nat → Nat
  | 0, v => v
  | j + 1, v => par (an par j v)
theorem an_par (par : Nat → Nat) : ∀ j v, an par (j + 1) v = an par j (par v)
  | 0, _ => rfl
  | j + 1, v => by rw [an, an_par par j v]; rfl
theorem an_add (par : Nat → Nat) (i : Nat) : ∀ j v, an par (j + i) v = an par j (an par i v)
  | 0, v => by rw [Nat.zero_add]; rfl
  | j + 1, v => by rw [show j + 1 + i = (j + i) + 1 by omega, an, an_add par i j v]; rfl
theorem TR.pa (hT : TR n E t par) {v : Nat} (hv : v < n) (hvt : ¬ v = t) : par v < n ∧ ad E v (par v) = true ∧ ds n E t (par v) + 1 = ds n E t v :=
  hT.1 v hv (by have := hT.2.1 v hv; omega)
theorem TR.up (hT : TR n E t par) {v : Nat} (hv : v < n) : ∀ {j}, j ≤ ds n E t v → an par j v < n ∧ ds n E t (an par j v) + j = ds n E t v
  | 0, _ => ⟨hv, rfl⟩
  | j + 1, hj => by
    obtain ⟨a, b⟩ := TR.up hT hv (j := j) (by omega)
    have hne : ¬ an par j v = t := fun q => by have := (hT.2.1 _ a).2 q; omega
    obtain ⟨c, _, d⟩ := hT.pa a hne
    exact ⟨c, by rw [an]; omega⟩
/-- a ball lies below the ancestor -/
theorem TR.bal (hT : TR n E t par) (hG : Gr n E) {x : Nat} (hx : x < n) : ∀ {k}, k ≤ ds n E t x → ∀ {y}, (bl n E x k).testBit y = true → y < n ∧ ∃ i, i ≤ ds n E t y ∧ an par i y = an par k x
  | 0, _, y, hy => by
    have : (1 <<< x).testBit y = true := hy
    rw [one_shl_bit, decide_eq_true_eq] at this
    subst this
    exact ⟨hx, 0, Nat.zero_le _, rfl⟩
  | k + 1, hk, y, hy => by
    obtain ⟨_, b0⟩ := hT.up hx (j := k) (by omega)
    rcases (bl_succ hG).1 hy with h | ⟨hyn, v, hv, hvb, ha⟩
    · obtain ⟨hyn, i, hi, e⟩ := TR.bal hT hG hx (k := k) (by omega) h
      obtain ⟨_, b1⟩ := hT.up hyn hi
      rw [e] at b1
      exact ⟨hyn, i + 1, by omega, by rw [an, e]; rfl⟩
    · obtain ⟨_, i, hi, e⟩ := TR.bal hT hG hx (k := k) (by omega) hvb
      obtain ⟨_, b1⟩ := hT.up hv hi
      rw [e] at b1
      refine ⟨hyn, ?_⟩
      rcases hT.2.2 v y hv hyn ha with ⟨q1, q2⟩ | ⟨q1, q2⟩
      · obtain ⟨_, _, d⟩ := hT.pa hyn q1
        rw [q2] at d
        exact ⟨i + 2, by omega, by rw [an, an_par, q2, e]; rfl⟩
      · obtain ⟨_, _, d⟩ := hT.pa hv q1
        rw [q2] at d
        cases i with
        | zero => exact ⟨0, Nat.zero_le _, by rw [show an par 0 y = y from rfl, ← q2]; show par v = par (an par k x); rw [← e]; rfl⟩
        | succ i =>
          rw [an_par, q2] at e
          exact ⟨i + 1, by omega, by rw [an, e]; rfl⟩
theorem TR.anb (hT : TR n E t par) (hG : Gr n E) {x : Nat} (hx : x < n) : ∀ {k}, k ≤ ds n E t x → (bl n E x k).testBit (an par k x) = true
  | 0, _ => bl_self
  | k + 1, hk => by
    have ih := TR.anb hT hG hx (k := k) (by omega)
    obtain ⟨a, b⟩ := hT.up hx (j := k) (by omega)
    have hne : ¬ an par k x = t := fun q => by have := (hT.2.1 _ a).2 q; omega
    obtain ⟨c, d, _⟩ := hT.pa a hne
    exact (bl_succ hG).2 (.inr ⟨c, _, a, ih, d⟩)
theorem TR.d5 (hG : Gr n E) (hc : Cn n E) {u v : Nat} (hu : u < n) (hv : v < n) : ds n E u v < 6 := by
  have := hc.ds hG hu hv
  have := hG.2.1
  have := hG.1
  omega
/-- how far an ancestor is -/
theorem TR.dan (hT : TR n E t par) (hG : Gr n E) (hc : Cn n E) (ht : t < n) {x k : Nat} (hx : x < n) (hk : k ≤ ds n E t x) : ds n E x (an par k x) = k := by
  have hx6 := TR.d5 hG hc ht hx
  have h1 := (ds_le (by omega)).1 (hT.anb hG hx hk)
  obtain ⟨a, b⟩ := hT.up hx hk
  rcases Nat.lt_or_ge (ds n E x (an par k x)) k with h | h
  · have h2 : (bl n E x (ds n E x (an par k x))).testBit (an par k x) = true := (ds_le (TR.d5 hG hc hx a)).2 (Nat.le_refl _)
    obtain ⟨_, i, hi, e⟩ := hT.bal hG hx (k := ds n E x (an par k x)) (by omega) h2
    obtain ⟨_, b2⟩ := hT.up a hi
    obtain ⟨_, b3⟩ := hT.up hx (j := ds n E x (an par k x)) (by omega)
    rw [e] at b2
    omega
  · omega
/-- the vertices between the root and `x` are its ancestors -/
theorem TR.path (hT : TR n E t par) (hG : Gr n E) (hc : Cn n E) (ht : t < n) {x v : Nat} (hx : x < n) (hv : v < n) : ds n E t v + ds n E v x = ds n E t x ↔ ds n E t v ≤ ds n E t x ∧ an par (ds n E t x - ds n E t v) x = v := by
  rw [ds_sym hG hv hx]
  constructor
  · intro h
    have h2 : (bl n E x (ds n E x v)).testBit v = true := (ds_le (TR.d5 hG hc hx hv)).2 (Nat.le_refl _)
    obtain ⟨_, i, hi, e⟩ := hT.bal hG hx (k := ds n E x v) (by omega) h2
    obtain ⟨_, b2⟩ := hT.up hv hi
    obtain ⟨_, b3⟩ := hT.up hx (j := ds n E x v) (by omega)
    rw [e] at b2
    obtain rfl : i = 0 := by omega
    refine ⟨by omega, ?_⟩
    rw [show ds n E t x - ds n E t v = ds n E x v by omega, ← e]
    rfl
  · rintro ⟨h1, h2⟩
    have := hT.dan hG hc ht hx (k := ds n E t x - ds n E t v) (by omega)
    rw [h2] at this
    omega
end TREE
