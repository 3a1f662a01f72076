/-! ===== DISTANCES BY ROUNDS (Floyd, Warshall) ===== -/
def rl (k : Nat) (D : Nat → Nat → Nat) : Nat → Nat → Nat := fun x y => min (D x y) (D x k + D k y)
def fw (D : Nat → Nat → Nat) : Nat → Nat → Nat → Nat
  | 0 => D
  | k + 1 => rl k (fw D k)
def d0 (E : Nat) : Nat → Nat → Nat := fun x y => if x = y then 0 else if ad E x y then 1 else 99
section FWM
variable {D : Nat → Nat → Nat}
theorem fw_le : ∀ (k x y : Nat), fw D k x y ≤ D x y
  | 0, _, _ => Nat.le_refl _
  | k + 1, x, y => Nat.le_trans (Nat.min_le_left _ _) (fw_le k x y)
theorem fw_self (h : ∀ x, D x x = 0) (k x : Nat) : fw D k x x = 0 := by
  have := fw_le (D := D) k x x
  rw [h] at this
  omega
/-- through the vertices done so far the triangle inequality holds -/
theorem fw_tri (h : ∀ x, D x x = 0) : ∀ (k j x y : Nat), j < k → fw D k x y ≤ fw D k x j + fw D k j y
  | 0, _, _, _, hj => absurd hj (Nat.not_lt_zero _)
  | k + 1, j, x, y, hj => by
    have s := fw_self h k k
    show min (fw D k x y) (fw D k x k + fw D k k y) ≤ min (fw D k x j) (fw D k x k + fw D k k j) + min (fw D k j y) (fw D k j k + fw D k k y)
    by_cases q : j = k
    · subst q
      omega
    · have t1 := fw_tri h k j x y (by omega)
      have t2 := fw_tri h k j k y (by omega)
      have t3 := fw_tri h k j x k (by omega)
      omega
theorem fw_low {L : Nat → Nat → Nat} {n : Nat} (h : ∀ x y, x < n → y < n → L x y ≤ D x y) (ht : ∀ x y z, x < n → y < n → z < n → L x y ≤ L x z + L z y) : ∀ k, k ≤ n → ∀ x y, x < n → y < n → L x y ≤ fw D k x y
  | 0, _, x, y, hx, hy => h x y hx hy
  | k + 1, hk, x, y, hx, hy => by
    have a1 := fw_low h ht k (by omega) x y hx hy
    have a2 := fw_low h ht k (by omega) x k hx (by omega)
    have a3 := fw_low h ht k (by omega) k y (by omega) hy
    have a4 := ht x y k hx hy (by omega)
    show L x y ≤ min _ _
    omega
/-- from one side to the other there is no way -/
theorem fw_cut {P : Nat → Prop} (h : ∀ x y, P x → ¬ P y → 99 ≤ D x y) : ∀ (k x y : Nat), P x → ¬ P y → 99 ≤ fw D k x y
  | 0, x, y, hx, hy => h x y hx hy
  | k + 1, x, y, hx, hy => by
    have a1 := fw_cut h k x y hx hy
    show 99 ≤ min _ _
    by_cases q : P k
    · have a2 := fw_cut h k k y q hy
      omega
    · have a2 := fw_cut h k x k hx q
      omega
end FWM
theorem d0_self (E x : Nat) : d0 E x x = 0 := if_pos rfl
theorem d0_le (E x y : Nat) : d0 E x y ≤ 99 := by
  unfold d0
  split
  · omega
  · split <;> omega
theorem fw_99 (E k x y : Nat) : fw (d0 E) k x y ≤ 99 := Nat.le_trans (fw_le k x y) (d0_le E x y)
section FWD
variable {n E : Nat}
theorem ds_tri (h : Gr n E) {x y z : Nat} (hx : x < n) (hz : z < n) : ds n E x y ≤ ds n E x z + ds n E z y := by
  have h6 := ds_le6 n E x y
  by_cases q : ds n E x z + ds n E z y < 6
  · exact (ds_le q).1 (bl_trans h ((ds_le (show ds n E x z < 6 by omega)).2 (Nat.le_refl _)) ((ds_le (show ds n E z y < 6 by omega)).2 (Nat.le_refl _)))
  · omega
theorem ds_adj (h : Gr n E) {x y : Nat} (hx : x < n) (hy : y < n) (ha : ad E x y = true) : ds n E x y ≤ 1 := by
  have := ds_near (u := x) h hy hx ha (by rw [ds_self]; decide)
  rw [ds_self] at this
  exact this
/-- the rounds give the distances -/
theorem fw_ds (h : Gr n E) (c : Cn n E) {x y : Nat} (hx : x < n) (hy : y < n) : fw (d0 E) n x y = ds n E x y := by
  have hn := h.2.1
  have lo : ds n E x y ≤ fw (d0 E) n x y := fw_low (L := ds n E) (n := n) (fun u v hu hv => by
    unfold d0
    split
    · next q => rw [q, ds_self]; exact Nat.le_refl _
    · split
      · next q => exact ds_adj h hu hv q
      · have := ds_le6 n E u v; omega) (fun u v z hu _ hz => ds_tri h hu hz) n (Nat.le_refl _) x y hx hy
  have hi : ∀ (d y : Nat), y < n → ds n E x y = d → fw (d0 E) n x y ≤ d := by
    intro d
    induction d with
    | zero =>
      intro y _ hd
      rw [ds_zero hd]
      exact Nat.le_of_eq (fw_self (d0_self E) n y)
    | succ d ih =>
      intro y hy hd
      have hxy : ¬ x = y := fun q => by rw [q, ds_self] at hd; omega
      have hle := c.ds h hx hy
      obtain ⟨u, hu, a1, a2, e⟩ := ds_par h hx hxy (by omega)
      have b1 := ih u hu (by omega)
      have b2 : fw (d0 E) n u y ≤ 1 := Nat.le_trans (fw_le n u y) (by
        unfold d0
        split
        · omega
        · try rw [if_pos a1]
          exact Nat.le_refl _)
      have b3 := fw_tri (d0_self E) n u x y hu
      omega
  exact Nat.le_antisymm (hi _ y hy rfl) lo
theorem fw_cn (h : Gr n E) : Cn n E ↔ ∀ v, v < n → fw (d0 E) n 0 v < 99 := by
  have h1 := h.1
  constructor
  · intro c v hv
    rw [fw_ds h c (by omega) hv]
    have := ds_le6 n E 0 v
    omega
  · intro q v hv
    cases hb : (bl n E 0 (n - 1)).testBit v with
    | true => rfl
    | false =>
      exfalso
      have := q v hv
      have k := fw_cut (D := d0 E) (P := fun x => ¬ (x < n ∧ (bl n E 0 (n - 1)).testBit x = false)) (fun x y hx hy => by
        obtain ⟨hy1, hy2⟩ := Classical.not_not.mp hy
        have hn := h.2.1
        unfold d0
        split
        · next e => subst e; exact absurd ⟨hy1, hy2⟩ hx
        · split
          · next e =>
            exfalso
            have g := h.2.2 x y (by omega) e
            have hb2 : (bl n E 0 (n - 1)).testBit x = true := by
              cases hq : (bl n E 0 (n - 1)).testBit x with
              | true => rfl
              | false => exact absurd ⟨g.1, hq⟩ hx
            rw [bl_all h (by omega) ((bl_succ (k := n - 1) h).2 (.inr ⟨g.2.1, x, g.1, hb2, e⟩))] at hy2
            cases hy2
          · exact Nat.le_refl _) n 0 v (fun q => by rw [bl_self] at q; cases q.2) (fun q => q ⟨hv, hb⟩)
      omega
end FWD
