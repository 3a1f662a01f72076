/-! ===== FARTHEST, DIAMETER, STACK, PEBBLES, MOVES ===== -/
theorem imn_n {a b : Nat} (ha : a < 2 ^ 31) (hb : b < 2 ^ 31) : imn (nI a) (nI b) = nI (min a b) := by
  unfold imn
  by_cases h : b < a
  · rw [if_pos (nI_lt h ha), Nat.min_eq_right (by omega)]
  · rw [if_neg (nI_nlt (by omega) hb), Nat.min_eq_left (by omega)]
theorem imx_n {a b : Nat} (ha : a < 2 ^ 31) (hb : b < 2 ^ 31) : imx (nI a) (nI b) = nI (max a b) := by
  unfold imx
  by_cases h : a < b
  · rw [if_pos (nI_lt h hb), Nat.max_eq_right (by omega)]
  · rw [if_neg (nI_nlt (by omega) ha), Nat.max_eq_left (by omega)]
theorem c15 {n E : Nat} {B : Bd} (hD : CD n E B) (hn : n ≤ 6) {u v : Nat} (hu : u < n) (hv : v < n) : F_15 B (nI u) (nI v) = some (nI (ds n E u v)) := by
  unfold F_15
  rw [li6, ixn (by omega) (by decide), Option.bind_some, hD u v hu hv]
/-- the least of f over a set, c at most -/
def mnl (f : Nat → Nat) (s c : Nat) : Nat → Nat
  | 0 => c
  | i + 1 => if s.testBit i then min (mnl f s c i) (f i) else mnl f s c i
theorem mnl_le (f : Nat → Nat) (s c : Nat) : ∀ i, mnl f s c i ≤ c
  | 0 => Nat.le_refl _
  | i + 1 => by
    have := mnl_le f s c i
    rw [mnl]; split <;> omega
/-- the first place of the greatest value -/
def amx (g : Nat → Nat) : Nat → Nat
  | 0 => 0
  | i + 1 => if g (i + 1) ≤ g (amx g i) then amx g i else i + 1
theorem amx_le (g : Nat → Nat) : ∀ i, amx g i ≤ i
  | 0 => Nat.le_refl _
  | i + 1 => by
    have := amx_le g i
    rw [amx]; split <;> omega
theorem amx_cong {f g : Nat → Nat} : ∀ {i : Nat}, (∀ j, j ≤ i → f j = g j) → amx f i = amx g i
  | 0, _ => rfl
  | i + 1, h => by
    have h1 := amx_cong (f := f) (g := g) (i := i) (fun j hj => h j (by omega))
    have h2 := amx_le g i
    rw [amx, amx, h1, h (i + 1) (by omega), h (amx g i) (by omega)]
theorem mnl_one {n E u v : Nat} (h : Gr n E) (hc : Cn n E) (hu : u < n) (hv : v < n) : mnl (ds n E v) (1 <<< u) n n = ds n E u v := by
  have hn := h.2.1
  have key : ∀ i, mnl (ds n E v) (1 <<< u) n i = if u < i then ds n E v u else n := by
    intro i
    induction i with
    | zero => rfl
    | succ i ih =>
      have := hc.ds h hv hu
      rw [mnl, ih, one_shl_bit]
      by_cases hb : i = u
      · subst hb
        simp
        omega
      · simp [hb]
        by_cases h2 : u < i
        · rw [if_pos h2, if_pos (by omega)]
        · rw [if_neg h2, if_neg (by omega)]
  rw [key n, if_pos hu, ds_sym h hv hu]
theorem one_lt {u : Nat} (hu : u < 6) : 1 <<< u < 64 := by
  have : 1 <<< u < 2 ^ 6 := by rw [Nat.one_shiftLeft]; exact Nat.pow_lt_pow_right (by decide) hu
  exact this
/-- the greatest of f over i < n -/
def mxl (f : Nat → Nat) (c : Nat) : Nat → Nat
  | 0 => c
  | i + 1 => max (mxl f c i) (f i)
theorem mxl_le {f : Nat → Nat} {c b : Nat} (hc : c ≤ b) : ∀ {i : Nat}, (∀ j, j < i → f j ≤ b) → mxl f c i ≤ b
  | 0, _ => hc
  | i + 1, h => by
    have h1 := mxl_le (f := f) hc (i := i) (fun j hj => h j (by omega))
    have h2 := h i (by omega)
    rw [mxl]; omega
theorem mxl_mem {f : Nat → Nat} {c : Nat} : ∀ {i j : Nat}, j < i → f j ≤ mxl f c i
  | i + 1, j, hj => by
    rw [mxl]
    rcases Nat.lt_or_ge j i with h | h
    · have := mxl_mem (f := f) (c := c) h; omega
    · obtain rfl : j = i := by omega
      omega
theorem mxl_ge {f : Nat → Nat} {c : Nat} : ∀ i, c ≤ mxl f c i
  | 0 => Nat.le_refl _
  | i + 1 => by have := mxl_ge (f := f) (c := c) i; rw [mxl]; omega
/-- the greatest distance -/
def dia (n E : Nat) : Nat := mxl (fun u => mxl (ds n E u) 0 n) 0 n
theorem ds_dia {n E u v : Nat} (hu : u < n) (hv : v < n) : ds n E u v ≤ dia n E :=
  Nat.le_trans (mxl_mem (f := ds n E u) (c := 0) hv) (mxl_mem (f := fun u => mxl (ds n E u) 0 n) (c := 0) hu)
theorem dia_le (n E : Nat) : dia n E ≤ 6 := mxl_le (by omega) fun u _ => mxl_le (by omega) fun v _ => ds_le6 n E u v
theorem c18 {n E : Nat} {B : Bd} (hB : CB n E B) (hD : CD n E B) (h : Gr n E) : F_18 B = some (nI (dia n E)) := by
  have hn := h.2.1
  have inner : ∀ u, u < n → ∀ a, a ≤ 6 → lw (G_18_14 B (nI u)) 200000 (nI a, 0) = some (nI (mxl (ds n E u) a u)) := by
    intro u hu a ha
    refine lw_seq (fun i => (nI (mxl (ds n E u) a i), nI i)) (n := u) ?_ ?_ (by omega)
    · intro i hi
      have h1 := mxl_le (f := ds n E u) ha (i := i) (fun j _ => ds_le6 n E u j)
      have h2 := ds_le6 n E u i
      simp only [G_18_14]
      rw [if_neg (nI_ge hi (by omega)), c15 hD hn hu (by omega), Option.bind_some, imx_n (by omega) (by omega), nI_1, mxl]
    · simp only [G_18_14]
      rw [if_pos (nI_le (Nat.le_refl _) (by omega))]
  obtain ⟨x, e1, a, rfl, h1, h2⟩ : ∃ x, lw (G_18_4 B) 200000 (0, 0) = some x ∧ ∃ a, x = nI a ∧ a ≤ dia n E ∧ ∀ u v, u < n → v < u → ds n E u v ≤ a := by
    refine lw_for (n := n) (fun i st => ∃ a, st = (nI a, nI i) ∧ a ≤ dia n E ∧ ∀ u v, u < i → v < u → ds n E u v ≤ a) ?_ ?_ ⟨0, rfl, Nat.zero_le _, fun u v hu => absurd hu (Nat.not_lt_zero _)⟩ (by omega)
    · rintro i st hi ⟨a, rfl, h1, h2⟩
      left
      have h3 := dia_le n E
      refine ⟨(nI (mxl (ds n E i) a i), nI (i + 1)), ?_, mxl (ds n E i) a i, rfl, mxl_le h1 fun j hj => ds_dia hi (by omega), fun u v hu hv => ?_⟩
      · simp only [G_18_4]
        rw [hB.1, if_neg (nI_ge hi (by omega)), inner i hi a (by omega), Option.bind_some, nI_1]
      · by_cases h4 : u = i
        · subst h4; exact mxl_mem hv
        · exact Nat.le_trans (h2 u v (by omega) hv) (mxl_ge i)
    · rintro st ⟨a, rfl, h1, h2⟩
      refine ⟨nI a, ?_, a, rfl, h1, h2⟩
      simp only [G_18_4]
      rw [hB.1, if_pos (nI_le (Nat.le_refl _) (by omega))]
  have h3 : dia n E ≤ a := mxl_le (Nat.zero_le _) fun u hu => mxl_le (Nat.zero_le _) fun v hv => by
    rcases Nat.lt_trichotomy u v with h4 | h4 | h4
    · rw [ds_sym h hu hv]; exact h2 v u hv h4
    · subst h4; rw [ds_self]; exact Nat.zero_le _
    · exact h2 u v hu h4
  unfold F_18
  rw [e1, show a = dia n E by omega]
  rfl
/-- a stack -/
def stk (n E u : Nat) : Nat := sm (fun v => 2 ^ ds n E u v) n
theorem p2_le {k : Nat} (h : k ≤ 6) : 2 ^ k ≤ 64 := by
  have := Nat.pow_le_pow_right (n := 2) (by decide) h
  exact this
theorem stk_le {n E u : Nat} (hn : n ≤ 6) (i : Nat) (hi : i ≤ n) : sm (fun v => 2 ^ ds n E u v) i ≤ 384 := by
  have := sm_le (f := fun v => 2 ^ ds n E u v) (c := 64) (n := i) (fun v _ => p2_le (ds_le6 n E u v))
  omega
theorem sh1 {d : Nat} (h : d ≤ 6) : (1 : Int32) <<< (nI d &&& 31) = nI (2 ^ d) := by
  rw [show (1 : Int32) <<< (nI d &&& 31) = nI (1 <<< d) from shl_n 1 (by omega), Nat.one_shiftLeft]
/-- pebbles -/
theorem c22 {n E : Nat} {p : Nat → Nat} {B : Bd} (hB : CB n E B) (hP : CP p B) (hn : n ≤ 6) : F_22 B = some (nI (sm p n)) := by
  have e1 : lw (G_22_4 B) 200000 (0, 0) = some (nI (sm p n)) := by
    refine lw_seq (fun i => (nI (sm p i), nI i)) (n := n) ?_ ?_ (by omega)
    · intro i hi
      simp only [G_22_4]
      rw [hB.1, if_neg (nI_ge hi (by omega)), ixn (by omega) (by decide), Option.bind_some, hP i (by omega), nI_add, nI_1]
      rfl
    · simp only [G_22_4]
      rw [hB.1, if_pos (nI_le (Nat.le_refl _) (by omega))]
  unfold F_22
  rw [e1]
  rfl
/-- whether a move can be made -/
def mv (E : Nat) (p : Nat → Nat) (u v : Nat) : Bool := decide (2 ≤ p u) && ad E u v && decide (p v < 999)
theorem c23 {n E : Nat} {p : Nat → Nat} {B : Bd} (hB : CB n E B) (hP : CP p B) (hE : E < 2 ^ 36) (hp : ∀ v, v < 6 → p v < 2 ^ 31) {u v : Nat} (hu : u < 6) (hv : v < 6) : F_23 B (nI u) (nI v) = some (bI (mv E p u v)) := by
  have h1 := hp u hu
  have h2 := hp v hv
  simp only [F_23, J_23_0_j35, J_23_0_j36, mv]
  rw [ixn (by omega) (by decide), Option.bind_some, hP u hu]
  by_cases h3 : 2 ≤ p u
  · rw [if_neg (show ¬ nI (p u) < 2 from nI_nlt h3 h1), decide_eq_true h3, c6 hB hE hu hv, Option.bind_some, Bool.true_and]
    by_cases h4 : ad E u v = true
    · rw [if_neg (by rw [bI_0]; exact fun q => q h4), ixn (by omega) (by decide), Option.bind_some, hP v hv, h4, Bool.true_and]
      by_cases h5 : p v < 999
      · rw [if_neg (show ¬ (999 : Int32) ≤ nI (p v) from nI_ge (b := 999) h5 (by decide)), decide_eq_true h5]; rfl
      · rw [if_pos (show (999 : Int32) ≤ nI (p v) from nI_le (a := 999) (by omega) h2), decide_eq_false h5]; rfl
    · rw [if_pos (bI_0.mpr h4), (by simpa using h4 : ad E u v = false)]; rfl
  · rw [if_pos (show nI (p u) < 2 from nI_lt (b := 2) (by omega) (by decide)), decide_eq_false h3]; rfl
/-- a move made -/
def pmv (p : Nat → Nat) (u v : Nat) : Nat → Nat := fun w => if w = v then (if v = u then p u - 2 else p v) + 1 else if w = u then p u - 2 else p w
theorem c24 {p : Nat → Nat} {B : Bd} (hP : CP p B) {u v : Nat} (hu : u < 6) (hv : v < 6) (h2 : 2 ≤ p u) : ∃ f, F_24 B (nI u) (nI v) = some ((B.w_pile f).w_moveCount (B.moveCount + 1)) ∧ ∀ w, w < 6 → f w = nI (pmv p u v w) := by
  refine ⟨upd (upd B.pile u (B.pile u - 2)) v (upd B.pile u (B.pile u - 2) v + 1), ?_, fun w hw => ?_⟩
  · unfold F_24
    rw [ixn (by omega) (by decide), Option.bind_some, Option.bind_some, ixn (by omega) (by decide), Option.bind_some, Option.bind_some, Option.bind_some]
    rfl
  · have e1 : B.pile u - 2 = nI (p u - 2) := by rw [hP u hu, z2, pk_sub h2]
    unfold pmv
    by_cases h3 : w = v
    · subst h3
      rw [pk_us, if_pos rfl]
      by_cases h4 : w = u
      · subst h4; rw [pk_us, if_pos rfl, e1, nI_1]
      · rw [pk_un h4, if_neg h4, hP w hw, nI_1]
    · rw [pk_un h3, if_neg h3]
      by_cases h4 : w = u
      · subst h4; rw [pk_us, if_pos rfl, e1]
      · rw [pk_un h4, if_neg h4, hP w hw]
