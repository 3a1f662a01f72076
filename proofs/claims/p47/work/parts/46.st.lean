/-! ===== STRATEGIES ===== -/
def pI : Option Nat → Int32
  | none => -1
  | some q => nI q
theorem pI_none : pI none = -1 := rfl
theorem pI_some (q : Nat) : pI (some q) = nI q := rfl
theorem nI_m1 {q : Nat} (hq : q < 2 ^ 31) : ¬ nI q = -1 := by
  rw [fa_eq, nI_toInt hq]
  intro h
  have : ((-1 : Int32)).toInt = -1 := by decide
  omega
def CS (n sc : Nat) (tg : Nat → Nat) (wt : Nat → Nat → Nat) (pr : Nat → Nat → Option Nat) (B : Bd) : Prop :=
  B.strategyCount = nI sc ∧ ∀ k, k < sc → B.targets k = nI (tg k) ∧ ∀ v, v < n → B.weights (6 * k + v) = nI (wt k v) ∧ B.parents (6 * k + v) = pI (pr k v)
def MS (n sc : Nat) (tg : Nat → Nat) (wt : Nat → Nat → Nat) (pr : Nat → Nat → Option Nat) (R : Nat → Int32) : Prop :=
  R 14 = nI sc ∧ ∀ k, k < sc → R (15 + 13 * k) = nI (tg k) ∧ ∀ v, v < n → R (16 + 13 * k + v) = nI (wt k v) ∧ R (22 + 13 * k + v) = pI (pr k v)
def SO (n sc : Nat) (tg : Nat → Nat) (wt : Nat → Nat → Nat) (pr : Nat → Nat → Option Nat) : Prop :=
  sc ≤ 6 ∧ ∀ k, k < sc → tg k < n ∧ ∀ v, v < n → wt k v ≤ 64 ∧ ∀ q, pr k v = some q → q < n
section ST
variable {n E sc : Nat} {tg : Nat → Nat} {wt : Nat → Nat → Nat} {pr : Nat → Nat → Option Nat} {B : Bd} {p : Nat → Nat}
theorem c28 (hS : CS n sc tg wt pr B) (hn : n ≤ 6) (h6 : sc ≤ 6) {k v : Nat} (hk : k < sc) (hv : v < n) : F_28 B (nI k) (nI v) = some (nI (wt k v)) := by
  unfold F_28
  rw [li6, ixn (by omega) (by decide), Option.bind_some, ((hS.2 k hk).2 v hv).1]
theorem c29 (hS : CS n sc tg wt pr B) (hn : n ≤ 6) (h6 : sc ≤ 6) {k v : Nat} (hk : k < sc) (hv : v < n) : F_29 B (nI k) (nI v) = some (pI (pr k v)) := by
  unfold F_29
  rw [li6, ixn (by omega) (by decide), Option.bind_some, ((hS.2 k hk).2 v hv).2]
theorem li13 (k v : Nat) : (15 + (13 * nI k)) + nI v = nI (15 + 13 * k + v) := by rw [z15, z13, pk_mul, nI_add, nI_add]
def sq (E : Nat) (tg : Nat → Nat) (wt : Nat → Nat → Nat) (k v : Nat) : Option Nat → Bool
  | none => false
  | some q => ad E v q && (decide (q = tg k) || decide (2 * wt k v ≤ wt k q))
theorem sq_some {k v q : Nat} : sq E tg wt k v (some q) = (ad E v q && (decide (q = tg k) || decide (2 * wt k v ≤ wt k q))) := rfl
/-- a vertex in order -/
def snd (E : Nat) (tg : Nat → Nat) (wt : Nat → Nat → Nat) (pr : Nat → Nat → Option Nat) (k v : Nat) : Bool :=
  decide (wt k v = 0) || sq E tg wt k v (pr k v)
/-- the first place of a property -/
def ffs (P : Nat → Bool) : Nat → Nat → Option Nat
  | _, 0 => none
  | i, j + 1 => if P i then some i else ffs P (i + 1) j
theorem ffs_lt {P : Nat → Bool} : ∀ {i j q : Nat}, ffs P i j = some q → q < i + j
  | i, j + 1, q, h => by
    rw [ffs] at h
    split at h
    · cases h; omega
    · have := ffs_lt h; omega
theorem lw_ffs {f : Int32 → Option (Int32 ⊕ Unit ⊕ Int32)} {P : Nat → Bool} {n : Nat} (hs : ∀ i, i < n → f (nI i) = if P i then some (.inr (.inr (nI i))) else some (.inl (nI (i + 1)))) (he : f (nI n) = some (.inr (.inl ()))) :
    ∀ j i k, i + j = n → j < k → lw f k (nI i) = some (match ffs P i j with
      | none => .inl ()
      | some q => .inr (nI q))
  | 0, i, k, hi, hk => by
    obtain rfl : i = n := by omega
    obtain ⟨k, rfl⟩ : ∃ q, k = q + 1 := ⟨k - 1, by omega⟩
    rw [lw_end he]
    rfl
  | j + 1, i, k, hi, hk => by
    obtain ⟨k, rfl⟩ : ∃ q, k = q + 1 := ⟨k - 1, by omega⟩
    have h1 := hs i (by omega)
    rw [ffs]
    by_cases hP : P i = true
    · rw [if_pos hP] at h1 ⊢
      rw [lw_end h1]
    · rw [if_neg hP] at h1 ⊢
      rw [lw_one h1]
      exact lw_ffs hs he j (i + 1) k (by omega) (by omega)
def flt (n E : Nat) (tg : Nat → Nat) (wt : Nat → Nat → Nat) (pr : Nat → Nat → Option Nat) (k : Nat) : Option Nat := ffs (fun v => !snd E tg wt pr k v) 0 n
theorem flt_lt {k q : Nat} (h : flt n E tg wt pr k = some q) : q < n := by
  have := ffs_lt h; omega
end ST
