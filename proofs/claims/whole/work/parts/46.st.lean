/-! ===== STRATEGIES ===== -/
def pI : Option Nat → Int32
  | none => -1
  | some q => nI q
theorem pI_none : pI none = -1 := rfl
theorem pI_some (q : Nat) : pI (some q) = nI q := rfl
theorem nI_m1 {q : Nat} (hq : q < 2 ^ 31) : ¬ nI q = -1 := by
  rw [fa_eq, nI_toInt hq]
  intro h
  have : ((-1 : Int32)).toInt = -1 := by decide
  omega
def CS (n sc : Nat) (tg : Nat → Nat) (wt : Nat → Nat → Nat) (pr : Nat → Nat → Option Nat) (B : Bd) : Prop :=
  B.strategyCount = nI sc ∧ ∀ k, k < sc → B.targets k = nI (tg k) ∧ ∀ v, v < n → B.weights (6 * k + v) = nI (wt k v) ∧ B.parents (6 * k + v) = pI (pr k v)
def MS (n sc : Nat) (tg : Nat → Nat) (wt : Nat → Nat → Nat) (pr : Nat → Nat → Option Nat) (R : Nat → Int32) : Prop :=
  R 14 = nI sc ∧ ∀ k, k < sc → R (15 + 13 * k) = nI (tg k) ∧ ∀ v, v < n → R (16 + 13 * k + v) = nI (wt k v) ∧ R (22 + 13 * k + v) = pI (pr k v)
def SO (n sc : Nat) (tg : Nat → Nat) (wt : Nat → Nat → Nat) (pr : Nat → Nat → Option Nat) : Prop :=
  sc ≤ 6 ∧ ∀ k, k < sc → tg k < n ∧ ∀ v, v < n → wt k v ≤ 64 ∧ ∀ q, pr k v = some q → q < n
section ST
variable {n E sc : Nat} {tg : Nat → Nat} {wt : Nat → Nat → Nat} {pr : Nat → Nat → Option Nat} {B : Bd} {M : Md} {p : Nat → Nat}
theorem c28 (hS : CS n sc tg wt pr B) (hn : n ≤ 6) (h6 : sc ≤ 6) {k v : Nat} (hk : k < sc) (hv : v < n) : F_28 B (nI k) (nI v) = some (nI (wt k v)) := by
  unfold F_28
  rw [li6, ixn (by omega) (by decide), Option.bind_some, ((hS.2 k hk).2 v hv).1]
theorem c29 (hS : CS n sc tg wt pr B) (hn : n ≤ 6) (h6 : sc ≤ 6) {k v : Nat} (hk : k < sc) (hv : v < n) : F_29 B (nI k) (nI v) = some (pI (pr k v)) := by
  unfold F_29
  rw [li6, ixn (by omega) (by decide), Option.bind_some, ((hS.2 k hk).2 v hv).2]
theorem li13 (k v : Nat) : (15 + (13 * nI k)) + nI v = nI (15 + 13 * k + v) := by rw [z15, z13, pk_mul, nI_add, nI_add]
theorem m177 {k j : Nat} (h : 15 + 13 * k + j < 93) : F_177 M (nI k) (nI j) = some (M.now (15 + 13 * k + j)) := by
  unfold F_177
  rw [li13, ixn h (by decide), Option.bind_some]
theorem m177t (hS : MS n sc tg wt pr M.now) (h6 : sc ≤ 6) {k : Nat} (hk : k < sc) : F_177 M (nI k) 0 = some (nI (tg k)) := by
  rw [z0, m177 (by omega), Nat.add_zero, (hS.2 k hk).1]
theorem m177w (hS : MS n sc tg wt pr M.now) (hn : n ≤ 6) (h6 : sc ≤ 6) {k v : Nat} (hk : k < sc) (hv : v < n) : F_177 M (nI k) (1 + nI v) = some (nI (wt k v)) := by
  rw [i1a, m177 (by omega), show 15 + 13 * k + (1 + v) = 16 + 13 * k + v by omega, ((hS.2 k hk).2 v hv).1]
theorem m177p (hS : MS n sc tg wt pr M.now) (hn : n ≤ 6) (h6 : sc ≤ 6) {k v : Nat} (hk : k < sc) (hv : v < n) : F_177 M (nI k) (7 + nI v) = some (pI (pr k v)) := by
  rw [i7a, m177 (by omega), show 15 + 13 * k + (7 + v) = 22 + 13 * k + v by omega, ((hS.2 k hk).2 v hv).2]
def sq (E : Nat) (tg : Nat → Nat) (wt : Nat → Nat → Nat) (k v : Nat) : Option Nat → Bool
  | none => false
  | some q => ad E v q && (decide (q = tg k) || decide (2 * wt k v ≤ wt k q))
theorem sq_some {k v q : Nat} : sq E tg wt k v (some q) = (ad E v q && (decide (q = tg k) || decide (2 * wt k v ≤ wt k q))) := rfl
/-- a vertex in order -/
def snd (E : Nat) (tg : Nat → Nat) (wt : Nat → Nat → Nat) (pr : Nat → Nat → Option Nat) (k v : Nat) : Bool :=
  decide (wt k v = 0) || sq E tg wt k v (pr k v)
theorem c30 (hB : CB n E B) (hS : CS n sc tg wt pr B) (hO : SO n sc tg wt pr) (h : Gr n E) {k v : Nat} (hk : k < sc) (hv : v < n) : F_30 B (nI k) (nI v) = some (bI (snd E tg wt pr k v)) := by
  have hn := h.2.1
  have h6 := hO.1
  have hw := ((hO.2 k hk).2 v hv).1
  have ht := (hO.2 k hk).1
  simp only [F_30, J_30_0_j37, J_30_0_j68, J_30_0_j63]
  rw [c28 hS hn h6 hk hv, Option.bind_some]
  unfold snd
  by_cases h0 : wt k v = 0
  · rw [if_neg (by rw [h0]; exact fun q => q rfl), decide_eq_true h0]; rfl
  · rw [if_pos (by rw [z0, nI_eq (by omega) (by decide)]; exact h0), decide_eq_false h0, c29 hS hn h6 hk hv, Option.bind_some]
    cases hp : pr k v with
    | none => rw [if_pos pI_none]; rfl
    | some q =>
      have hq := ((hO.2 k hk).2 v hv).2 q hp
      have hwq := ((hO.2 k hk).2 q hq).1
      rw [pI_some, sq_some]
      rw [if_neg (nI_m1 (by omega)), c6 hB h.E_lt (by omega) (by omega), Option.bind_some]
      by_cases ha : ad E v q = true
      · rw [if_pos (by rw [bI_0]; exact fun z => z ha), ixn (by omega) (by decide), Option.bind_some, (hS.2 k hk).1, ha]
        by_cases hqt : q = tg k
        · rw [if_pos (by rw [hqt]), decide_eq_true hqt]; rfl
        · rw [if_neg (by rw [nI_eq (by omega) (by omega)]; exact hqt), decide_eq_false hqt, c28 hS hn h6 hk hq, Option.bind_some, z2, pk_mul]
          by_cases h2 : 2 * wt k v ≤ wt k q
          · rw [if_neg (nI_nlt h2 (by omega)), decide_eq_true h2]; rfl
          · rw [if_pos (nI_lt (by omega) (by omega)), decide_eq_false h2]; rfl
      · rw [if_neg (by rw [bI_0]; exact fun z => z ha), (by simpa using ha : ad E v q = false)]; rfl
theorem m240 (hM : MR n E M.now) (hS : MS n sc tg wt pr M.now) (hO : SO n sc tg wt pr) (h : Gr n E) {k v : Nat} (hk : k < sc) (hv : v < n) : F_240 M (nI k) (nI v) = some (bI (!snd E tg wt pr k v)) := by
  have hn := h.2.1
  have h6 := hO.1
  have hw := ((hO.2 k hk).2 v hv).1
  have ht := (hO.2 k hk).1
  simp only [F_240, J_240_0_j42, J_240_0_j75, J_240_0_j74]
  rw [m177w hS hn h6 hk hv, Option.bind_some, m177p hS hn h6 hk hv, Option.bind_some]
  unfold snd
  by_cases h0 : wt k v = 0
  · rw [if_neg (by rw [h0]; exact fun q => q rfl), decide_eq_true h0]; rfl
  · rw [if_pos (by rw [z0, nI_eq (by omega) (by decide)]; exact h0), decide_eq_false h0]
    cases hp : pr k v with
    | none => rw [if_pos pI_none]; rfl
    | some q =>
      have hq := ((hO.2 k hk).2 v hv).2 q hp
      have hwq := ((hO.2 k hk).2 q hq).1
      rw [pI_some, sq_some]
      rw [if_neg (nI_m1 (by omega)), m175 hM (by omega) (by omega), Option.bind_some]
      by_cases ha : ad E v q = true
      · rw [if_pos (by rw [bI_0]; exact fun z => z ha), m177t hS h6 hk, Option.bind_some, ha]
        by_cases hqt : q = tg k
        · rw [if_pos (by rw [hqt]), decide_eq_true hqt]; rfl
        · rw [if_neg (by rw [nI_eq (by omega) (by omega)]; exact hqt), decide_eq_false hqt, m177w hS hn h6 hk hq, Option.bind_some, z2, pk_mul]
          by_cases h2 : 2 * wt k v ≤ wt k q
          · rw [if_pos (nI_le h2 (by omega)), decide_eq_true h2]; rfl
          · rw [if_neg (nI_ge (by omega) (by omega)), decide_eq_false h2]; rfl
      · rw [if_neg (by rw [bI_0]; exact fun z => z ha), (by simpa using ha : ad E v q = false)]; rfl
/-- the first place of a property -/
def ffs (P : Nat → Bool) : Nat → Nat → Option Nat
  | _, 0 => none
  | i, j + 1 => if P i then some i else ffs P (i + 1) j
theorem ffs_lt {P : Nat → Bool} : ∀ {i j q : Nat}, ffs P i j = some q → q < i + j
  | i, j + 1, q, h => by
    rw [ffs] at h
    split at h
    · cases h; omega
    · have := ffs_lt h; omega
theorem lw_ffs {f : Int32 → Option (Int32 ⊕ Unit ⊕ Int32)} {P : Nat → Bool} {n : Nat} (hs : ∀ i, i < n → f (nI i) = if P i then some (.inr (.inr (nI i))) else some (.inl (nI (i + 1)))) (he : f (nI n) = some (.inr (.inl ()))) :
    ∀ j i k, i + j = n → j < k → lw f k (nI i) = some (match ffs P i j with
      | none => .inl ()
      | some q => .inr (nI q))
  | 0, i, k, hi, hk => by
    obtain rfl : i = n := by omega
    obtain ⟨k, rfl⟩ : ∃ q, k = q + 1 := ⟨k - 1, by omega⟩
    rw [lw_end he]
    rfl
  | j + 1, i, k, hi, hk => by
    obtain ⟨k, rfl⟩ : ∃ q, k = q + 1 := ⟨k - 1, by omega⟩
    have h1 := hs i (by omega)
    rw [ffs]
    by_cases hP : P i = true
    · rw [if_pos hP] at h1 ⊢
      rw [lw_end h1]
    · rw [if_neg hP] at h1 ⊢
      rw [lw_one h1]
      exact lw_ffs hs he j (i + 1) k (by omega) (by omega)
def flt (n E : Nat) (tg : Nat → Nat) (wt : Nat → Nat → Nat) (pr : Nat → Nat → Option Nat) (k : Nat) : Option Nat := ffs (fun v => !snd E tg wt pr k v) 0 n
theorem flt_lt {k q : Nat} (h : flt n E tg wt pr k = some q) : q < n := by
  have := ffs_lt h; omega
theorem c31 (hB : CB n E B) (hS : CS n sc tg wt pr B) (hO : SO n sc tg wt pr) (h : Gr n E) {k : Nat} (hk : k < sc) : F_31 B (nI k) = some (pI (flt n E tg wt pr k)) := by
  have hn := h.2.1
  have e1 := lw_ffs (f := G_31_2 B (nI k)) (P := fun v => !snd E tg wt pr k v) (n := n) (fun i hi => by
    simp only [G_31_2]
    rw [hB.1, if_neg (nI_ge hi (by omega)), c30 hB hS hO h hk hi, Option.bind_some]
    cases hs : snd E tg wt pr k i
    · rfl
    · simp only [Bool.not_true, Bool.false_eq_true, if_false]
      rw [if_pos (by decide), nI_1]) (by
    simp only [G_31_2]
    rw [hB.1, if_pos (nI_le (Nat.le_refl _) (by omega))]) n 0 200000 (by omega) (by omega)
  unfold F_31 flt
  rw [show (0 : Int32) = nI 0 from rfl, e1, Option.bind_some]
  cases ffs (fun v => !snd E tg wt pr k v) 0 n <;> rfl
theorem m241 (hM : MR n E M.now) (hS : MS n sc tg wt pr M.now) (hO : SO n sc tg wt pr) (h : Gr n E) {k : Nat} (hk : k < sc) : F_241 M (nI k) = some (pI (flt n E tg wt pr k)) := by
  have hn := h.2.1
  have e1 := lw_ffs (f := G_241_2 M (nI k)) (P := fun v => !snd E tg wt pr k v) (n := n) (fun i hi => by
    simp only [G_241_2]
    rw [ix0, Option.bind_some, hM.1, if_neg (nI_ge hi (by omega)), m240 hM hS hO h hk hi, Option.bind_some]
    cases hs : snd E tg wt pr k i
    · rfl
    · simp only [Bool.not_true, Bool.false_eq_true, if_false]
      rw [if_pos (by decide), nI_1]) (by
    simp only [G_241_2]
    rw [ix0, Option.bind_some, hM.1, if_pos (nI_le (Nat.le_refl _) (by omega))]) n 0 200000 (by omega) (by omega)
  unfold F_241 flt
  rw [show (0 : Int32) = nI 0 from rfl, e1, Option.bind_some]
  cases ffs (fun v => !snd E tg wt pr k v) 0 n <;> rfl
/-- sums of weights -/
theorem c32 (hB : CB n E B) (hS : CS n sc tg wt pr B) (hO : SO n sc tg wt pr) (hn : n ≤ 6) {k : Nat} (hk : k < sc) : F_32 B (nI k) = some (nI (sm (wt k) n)) := by
  have e1 : lw (G_32_4 B (nI k)) 200000 (0, 0) = some (nI (sm (wt k) n)) := by
    refine lw_seq (fun i => (nI (sm (wt k) i), nI i)) (n := n) ?_ ?_ (by omega)
    · intro i hi
      simp only [G_32_4]
      rw [hB.1, if_neg (nI_ge hi (by omega)), c28 hS hn hO.1 hk hi, Option.bind_some, nI_add, nI_1]
      rfl
    · simp only [G_32_4]
      rw [hB.1, if_pos (nI_le (Nat.le_refl _) (by omega))]
  unfold F_32
  rw [e1]
  rfl
theorem c33 (hB : CB n E B) (hP : CP p B) (hS : CS n sc tg wt pr B) (hO : SO n sc tg wt pr) (hn : n ≤ 6) {k : Nat} (hk : k < sc) : F_33 B (nI k) = some (nI (sm (fun v => wt k v * p v) n)) := by
  have e1 : lw (G_33_4 B (nI k)) 200000 (0, 0) = some (nI (sm (fun v => wt k v * p v) n)) := by
    refine lw_seq (fun i => (nI (sm (fun v => wt k v * p v) i), nI i)) (n := n) ?_ ?_ (by omega)
    · intro i hi
      simp only [G_33_4]
      rw [hB.1, if_neg (nI_ge hi (by omega)), c28 hS hn hO.1 hk hi, Option.bind_some, ixn (by omega) (by decide), Option.bind_some, hP i (by omega), pk_mul, nI_add, nI_1]
      rfl
    · simp only [G_33_4]
      rw [hB.1, if_pos (nI_le (Nat.le_refl _) (by omega))]
  unfold F_33
  rw [e1]
  rfl
theorem m243 (hM : MR n E M.now) (hP : MP p M.now) (hS : MS n sc tg wt pr M.now) (hO : SO n sc tg wt pr) (hn : n ≤ 6) {k : Nat} (hk : k < sc) : F_243 M (nI k) 0 = some (nI (sm (wt k) n)) ∧ F_243 M (nI k) 1 = some (nI (sm (fun v => wt k v * p v) n)) := by
  constructor
  · have e1 : lw (G_243_5 M (nI k) 0) 200000 (0, 0) = some (nI (sm (wt k) n)) := by
      refine lw_seq (fun i => (nI (sm (wt k) i), nI i)) (n := n) ?_ ?_ (by omega)
      · intro i hi
        simp only [G_243_5, J_243_5_j40]
        rw [ix0, Option.bind_some, hM.1, if_neg (nI_ge hi (by omega)), m177w hS hn hO.1 hk hi, Option.bind_some, if_pos trivial, z1, pk_mul, Nat.mul_one, nI_add, nI_add]
        rfl
      · simp only [G_243_5]
        rw [ix0, Option.bind_some, hM.1, if_pos (nI_le (Nat.le_refl _) (by omega))]
    unfold F_243
    rw [e1]
    rfl
  · have e1 : lw (G_243_5 M (nI k) 1) 200000 (0, 0) = some (nI (sm (fun v => wt k v * p v) n)) := by
      refine lw_seq (fun i => (nI (sm (fun v => wt k v * p v) i), nI i)) (n := n) ?_ ?_ (by omega)
      · intro i hi
        simp only [G_243_5, J_243_5_j40]
        rw [ix0, Option.bind_some, hM.1, if_neg (nI_ge hi (by omega)), m177w hS hn hO.1 hk hi, Option.bind_some, if_neg (by decide), m176 hP (by omega), Option.bind_some, pk_mul, nI_add, nI_1]
        rfl
      · simp only [G_243_5]
        rw [ix0, Option.bind_some, hM.1, if_pos (nI_le (Nat.le_refl _) (by omega))]
    unfold F_243
    rw [e1]
    rfl
end ST
