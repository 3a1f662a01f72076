/-! ===== THE CLASS'S NUMBER OF A TREE: the loop ===== -/
section TREE
variable {n E t : Nat} {par : Nat → Nat}
def pm (n E t x : Nat) : Nat := om (fun v => if ds n E t v + ds n E v x = ds n E t x then 1 <<< v else 0) n
theorem pm_bit {x v : Nat} : (pm n E t x).testBit v = true ↔ v < n ∧ ds n E t v + ds n E v x = ds n E t x := by
  unfold pm
  rw [om_bit]
  constructor
  · rintro ⟨i, hi, h⟩
    by_cases q : ds n E t i + ds n E i x = ds n E t x
    · rw [if_pos q, one_shl_bit, decide_eq_true_eq] at h
      subst h
      exact ⟨hi, q⟩
    · rw [if_neg q, Nat.zero_testBit] at h
      cases h
  · rintro ⟨h1, h2⟩
    exact ⟨v, h1, by rw [if_pos h2, one_shl_bit]; exact decide_eq_true rfl⟩
theorem c20 {B : Bd} (hB : CB n E B) (hD : CD n E B) (hn : n ≤ 6) {x : Nat} (ht : t < n) (hx : x < n) : F_20 B (nI t) (nI x) = some (nI (pm n E t x)) := by
  unfold F_20
  have key : lw (G_20_5 B (nI t) (nI x)) 200000 (0, 0) = some (nI (pm n E t x)) := by
    refine lw_seq (fun i => (nI (om (fun v => if ds n E t v + ds n E v x = ds n E t x then 1 <<< v else 0) i), nI i)) (n := n) (fun i hi => ?_) ?_ (by omega)
    · have k1 := ds_le6 n E t i
      have k2 := ds_le6 n E i x
      have k3 := ds_le6 n E t x
      simp only [G_20_5]
      rw [hB.1, if_neg (nI_ge hi (by omega)), c15 hD hn ht hi, Option.bind_some, c15 hD hn hi hx, Option.bind_some, c15 hD hn ht hx, Option.bind_some, nI_add]
      by_cases q : ds n E t i + ds n E i x = ds n E t x
      · rw [if_neg (by rw [nI_eq (by omega) (by omega)]; exact fun k => k q)]
        simp only [J_20_5_j45]
        rw [om, if_pos q, z1, shl_n 1 (by omega), fa_or, nI_add]
      · rw [if_pos (by rw [nI_eq (by omega) (by omega)]; exact q)]
        simp only [J_20_5_j45]
        rw [om, if_neg q, Nat.or_zero, nI_1]
    · simp only [G_20_5]
      rw [hB.1, if_pos (nI_le (Nat.le_refl _) (by omega))]
      rfl
  rw [key, Option.bind_some]
/-- the number -/
def tn (n E t : Nat) (par : Nat → Nat) : Nat := 1 + sm (fun v => if ¬ v = t then 2 ^ hh n E t par v else 0) n
theorem c19 {B : Bd} (hB : CB n E B) (hD : CD n E B) (hT : TR n E t par) (hG : Gr n E) (hc : Cn n E) (ht : t < n) : F_19 B (nI t) = some (nI (tn n E t par)) := by
  have hn := hG.2.1
  have h1 := hG.1
  have p64 : ∀ {s}, s < 2 ^ n → s < 64 := fun {s} h => Nat.lt_of_lt_of_le h (Nat.le_trans (Nat.pow_le_pow_right (by decide) hn) (by decide))
  have S0 : SC n t par (1 <<< t) := by
    refine ⟨?_, by rw [one_shl_bit]; exact decide_eq_true rfl, fun v _ hvt h => ?_⟩
    · rw [Nat.one_shiftLeft]; exact Nat.pow_lt_pow_right (by decide) ht
    · rw [one_shl_bit, decide_eq_true_eq] at h; exact absurd h hvt
  have W0 : wS n E t par (1 <<< t) = 0 := sm_zero fun v _ => if_neg fun ⟨a, b⟩ => by
    rw [one_shl_bit, decide_eq_true_eq] at a; exact b a
  have P0 : min 1 n ≤ pcn (1 <<< t) n := by
    unfold pcn
    have e : (1 <<< t).testBit t = true := by rw [one_shl_bit]; exact decide_eq_true rfl
    have h : (if (1 <<< t).testBit t = true then 1 else 0) ≤ sm (fun v => if (1 <<< t).testBit v = true then 1 else 0) n := sm_mem (f := fun v => if (1 <<< t).testBit v = true then 1 else 0) ht
    rw [if_pos e] at h
    omega
  have main : ∃ r, lw (G_19_9 B (nI t)) 200000 (nI (1 <<< t), nI 1, nI 1) = some r ∧ r = nI (tn n E t par) := by
    refine lw_for (n := n - 1) (fun i st => ∃ s, st = (nI s, nI (1 + wS n E t par s), nI (i + 1)) ∧ SC n t par s ∧ min (i + 1) n ≤ pcn s n) ?_ ?_ ⟨_, by rw [W0], S0, P0⟩ (by omega)
    · rintro i st hi ⟨s, rfl, hS, hP⟩
      left
      have s64 := p64 hS.1
      have hx : amx (fun v => mnl (ds n E v) s n n) (n - 1) < n := by have := amx_le (fun v => mnl (ds n E v) s n n) (n - 1); omega
      have hmax : ∀ y, y < n → mnl (ds n E y) s n n ≤ mnl (ds n E (amx (fun v => mnl (ds n E v) s n n) (n - 1))) s n n := fun y hy => amx_max (fun v => mnl (ds n E v) s n n) (n - 1) y (by omega)
      have e17 := c17 hB hD hG (s := s) (by omega)
      generalize hxx : amx (fun v => mnl (ds n E v) s n n) (n - 1) = x at *
      obtain ⟨k, d1, d2, d3, d4⟩ := hT.dl hG hc ht hS hx
      rw [d2] at hmax
      have k5 : k < 6 := by have := TR.d5 hG hc ht hx; omega
      have hbit : ∀ v, (s ||| pm n E t x).testBit v = true ↔ s.testBit v = true ∨ (v < n ∧ ds n E t v + ds n E v x = ds n E t x) := fun v => by
        rw [Nat.testBit_or, Bool.or_eq_true, pm_bit]
      have hlt : s ||| pm n E t x < 2 ^ n := by
        refine bit_lt fun j hj => ?_
        cases hb : (s ||| pm n E t x).testBit j with
        | false => rfl
        | true =>
          rcases (hbit j).1 hb with h | h
          · rw [bit_ge hS.1 hj] at h; cases h
          · omega
      obtain ⟨a1, a2, a3⟩ := hT.add hG hc ht (s' := s ||| pm n E t x) hS hx d2 hmax hlt (fun v hv => by rw [hbit v]; exact ⟨fun h => h.imp_right And.right, fun h => h.imp_right fun z => ⟨hv, z⟩⟩)
      refine ⟨(nI (s ||| pm n E t x), nI (1 + wS n E t par (s ||| pm n E t x)), nI (i + 1 + 1)), ?_, _, rfl, a1, ?_⟩
      · simp only [G_19_9]
        rw [hB.1, if_neg (nI_ge (show i + 1 < n by omega) (by omega)), e17, Option.bind_some, c16 hB hD hG hx (by omega), Option.bind_some, d2, c20 hB hD hn ht hx, Option.bind_some, fa_or, sh1 (by omega), z1, pk_sub Nat.one_le_two_pow, nI_add, nI_add]
        rw [show 1 + wS n E t par s + (2 ^ k - 1) = 1 + wS n E t par (s ||| pm n E t x) by have := Nat.one_le_two_pow (n := k); omega]
      · have mono := pcn_mono (s := s) (t := s ||| pm n E t x) (fun j h => (hbit j).2 (.inl h)) n
        by_cases full : pcn s n = n
        · omega
        · -- one more
          have hk : ¬ k = 0 := fun h0 => by
            subst h0
            refine full ?_
            have all : ∀ y, y < n → s.testBit y = true := fun y hy => by
              obtain ⟨l, b1, b2, b3, b4⟩ := hT.dl hG hc ht hS hy
              have := hmax y hy
              obtain rfl : l = 0 := by omega
              exact b3
            unfold pcn
            have c : ∀ m, m ≤ n → sm (fun v => if s.testBit v = true then 1 else 0) m = m := fun m hm => by
              induction m with
              | zero => rfl
              | succ m ih => rw [sm, ih (by omega), if_pos (all m (by omega))]
            exact c n (Nat.le_refl _)
          have := pcn_lt (s := s) (t := s ||| pm n E t x) (j := x) (fun j h => (hbit j).2 (.inl h)) (d4 0 (by omega)) a3 hx
          omega
    · rintro st ⟨s, rfl, hS, hP⟩
      have hp := pcn_le s n
      have full := pcn_full (s := s) (n := n) (by omega)
      refine ⟨nI (tn n E t par), ?_, rfl⟩
      simp only [G_19_9]
      rw [hB.1, if_pos (nI_le (show n ≤ n - 1 + 1 by omega) (by omega))]
      have : wS n E t par s = sm (fun v => if ¬ v = t then 2 ^ hh n E t par v else 0) n := sm_cong fun v hv => if_iff ⟨fun h => h.2, fun h => ⟨full v hv, h⟩⟩ _ _
      rw [this]
      rfl
  obtain ⟨r, hr, rfl⟩ := main
  unfold F_19
  rw [show (1 : Int32) <<< (nI t &&& 31) = nI (1 <<< t) from shl_n 1 (by omega), z1, hr, Option.bind_some]
end TREE
