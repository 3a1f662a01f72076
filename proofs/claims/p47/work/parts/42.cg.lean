/-! ===== THE CLASS' GRAPH ===== -/
def bI (b : Bool) : Int32 := if b then 1 else 0
theorem bI_0 {b : Bool} : bI b = 0 ↔ ¬ b = true := by cases b <;> decide
theorem bI_1 {b : Bool} : bI b = 1 ↔ b = true := by cases b <;> decide
theorem bI_ok {α : Type} {b : Bool} {x y : α} : (if bI b = 0 ∨ bI b = 1 then x else y) = x := by cases b <;> rfl
theorem bI_t : bI true = 1 := rfl
theorem bI_f : bI false = 0 := rfl
theorem l_eq0 {x : Int64} : lg_cmp x 0 = 0 ↔ x = 0 := by
  unfold lg_cmp
  by_cases h1 : x > 0
  · rw [if_pos h1]
    constructor
    · intro h; cases h
    · intro h; subst h; exact absurd h1 (by decide)
  · rw [if_neg h1]
    by_cases h2 : x = 0
    · rw [if_pos h2]; exact ⟨fun _ => h2, fun _ => rfl⟩
    · rw [if_neg h2]
      constructor
      · intro h; cases h
      · intro h; exact absurd h h2
theorem l_shr {a k : Nat} (ha : a < 2 ^ 62) (hk : k < 64) : lN a >>> ((nI k).toInt64 &&& 63) = lN (a >>> k) := by
  rw [wb_c k hk, pf_shr (d := k) (by rw [wb_tb, wb_sm k hk, BitVec.toNat_ofNat]; omega) ha, Nat.shiftRight_eq_div_pow]
theorem l_and1 {a : Nat} (ha : a < 2 ^ 63) : lN a &&& 1 = lN (a % 2) := by
  have h := wb_and (a := a) (b := 1) (by omega) (by decide)
  rw [Nat.and_one_is_mod] at h
  exact h
theorem l_bit {a k : Nat} (ha : a < 2 ^ 62) (hk : k < 64) : ((lN a >>> ((nI k).toInt64 &&& 63)) &&& 1 = 0) ↔ ¬ a.testBit k = true := by
  have h1 : a >>> k ≤ a := by rw [Nat.shiftRight_eq_div_pow]; exact Nat.div_le_self _ _
  rw [l_shr ha hk, l_and1 (by omega), show (0 : Int64) = lN 0 from rfl, lN_eq (by omega) (by omega), Nat.testBit, Nat.and_comm, Nat.and_one_is_mod]
  have : a >>> k % 2 < 2 := Nat.mod_lt _ (by decide)
  rcases (show a >>> k % 2 = 0 ∨ a >>> k % 2 = 1 by omega) with h | h <;> rw [h] <;> simp
theorem l_one {k : Nat} (hk : k < 64) : (1 : Int64) <<< ((nI k).toInt64 &&& 63) = lN (2 ^ k) := by
  have := wb_shl 1 hk
  rw [Nat.one_mul] at this
  exact this
theorem li6 (u v : Nat) : (6 * nI u) + nI v = nI (6 * u + v) := by rw [z6, pk_mul, nI_add]
def eb (u v : Nat) : Nat := 2 ^ (6 * u + v) ||| 2 ^ (6 * v + u)
theorem eb_lt {u v : Nat} (hu : u < 6) (hv : v < 6) : eb u v < 2 ^ 36 := Nat.or_lt_two_pow (Nat.pow_lt_pow_right (by decide) (by omega)) (Nat.pow_lt_pow_right (by decide) (by omega))
theorem c3 {u v : Nat} (hu : u < 6) (hv : v < 6) : F_3 (nI u) (nI v) = some (lN (eb u v)) := by
  have h1 : 2 ^ (6 * u + v) < 2 ^ 36 := Nat.pow_lt_pow_right (by decide) (by omega)
  have h2 : 2 ^ (6 * v + u) < 2 ^ 36 := Nat.pow_lt_pow_right (by decide) (by omega)
  unfold F_3
  rw [li6, li6, l_one (by omega), l_one (by omega), wb_or (by omega) (by omega)]
  rfl
theorem c8 {E v : Nat} (hE : E < 2 ^ 36) (hv : v < 6) : F_8 (lN E) (nI v) = some (nI (nb E v)) := by
  unfold F_8
  rw [z6, pk_mul, l_shr (by omega) (by omega), lN_i]
  have h := fa_mask (E >>> (6 * v)) 6
  exact congrArg some h
/-- a board's graph, its pile, its distances -/
def CB (n E : Nat) (B : Bd) : Prop := B.vertices = nI n ∧ B.edges = lN E
def CP (p : Nat → Nat) (B : Bd) : Prop := ∀ v, v < 6 → B.pile v = nI (p v)
def CD (n E : Nat) (B : Bd) : Prop := ∀ u v, u < n → v < n → B.distances (6 * u + v) = nI (ds n E u v)
theorem c6 {n E : Nat} {B : Bd} (hB : CB n E B) (hE : E < 2 ^ 36) {u v : Nat} (hu : u < 6) (hv : v < 6) : F_6 B (nI u) (nI v) = some (bI (ad E u v)) := by
  unfold F_6 J_6_0_j23
  rw [hB.2, li6]
  by_cases h : ad E u v = true
  · rw [if_neg (by rw [l_eq0, l_bit (by omega) (by omega)]; exact fun q => q h), if_pos (.inr rfl), h]
    rfl
  · rw [if_pos (by rw [l_eq0, l_bit (by omega) (by omega)]; exact h), if_pos (.inl rfl), (by simpa using h : ad E u v = false)]
    rfl
theorem c9 {n E : Nat} {B : Bd} (hB : CB n E B) (hE : E < 2 ^ 36) {v : Nat} (hv : v < 6) : F_9 B (nI v) = some (nI (nb E v)) := by
  unfold F_9
  rw [hB.2, c8 hE hv]
  rfl
theorem c253 : ∀ m, m < 64 → F_253 (nI m) = some (nI (pcn m 6)) := by decide +kernel
theorem pcn_six {m n : Nat} (hm : m < 2 ^ n) (hn : n ≤ 6) : pcn m 6 = pcn m n := by
  have key : ∀ k, pcn m (n + k) = pcn m n := fun k => by
    induction k with
    | zero => rfl
    | succ k ih =>
      rw [← Nat.add_assoc]
      unfold pcn at ih ⊢
      rw [sm, ih, if_neg (by rw [bit_ge hm (by omega)]; simp), Nat.add_zero]
  have := key (6 - n)
  rw [show n + (6 - n) = 6 by omega] at this
  exact this
/-- one pass over the vertices: what is met grows, between the ball before and all that can be reached -/
theorem c10 {n E : Nat} {B : Bd} {E0 : Nat} (hB : CB n E0 B) (h : Gr n E) : F_10 B (lN E) = some (bI (decide (pcn (bl n E 0 (n - 1)) n = n))) := by
  have hE := h.E_lt
  have hn := h.2.1
  have h1n := h.1
  have inner : ∀ (r s : Nat) (x4 : Int32), (∀ j, (bl n E 0 r).testBit j = true → s.testBit j = true) → (∀ j, s.testBit j = true → (bl n E 0 (n - 1)).testBit j = true) →
      ∃ x, lw (G_10_17 B (lN E) x4) 200000 (nI s, 0) = some x ∧ ∃ t, x = nI t ∧ (∀ j, (bl n E 0 (r + 1)).testBit j = true → t.testBit j = true) ∧ (∀ j, t.testBit j = true → (bl n E 0 (n - 1)).testBit j = true) := by
    intro r s x4 hs1 hs2
    refine lw_for (n := n) (fun i st => ∃ t, st = (nI t, nI i) ∧ (∀ j, s.testBit j = true → t.testBit j = true) ∧ (∀ j, t.testBit j = true → (bl n E 0 (n - 1)).testBit j = true) ∧ (∀ v, v < i → s.testBit v = true → ∀ j, (nb E v).testBit j = true → t.testBit j = true)) ?_ ?_ ⟨s, rfl, fun _ q => q, hs2, fun v hv => absurd hv (Nat.not_lt_zero _)⟩ (by omega)
    · rintro i st hi ⟨t, rfl, h1, h2, h3⟩
      left
      have ht : t < 2 ^ 31 := by
        have : t < 2 ^ n := bit_lt fun i hi => by
          cases hb : t.testBit i with
          | false => rfl
          | true => have := bl_in h h1n (h2 i hb); omega
        have : 2 ^ n ≤ 2 ^ 6 := Nat.pow_le_pow_right (by decide) hn
        omega
      by_cases hb : t.testBit i = true
      · refine ⟨(nI (t ||| nb E i), nI (i + 1)), ?_, t ||| nb E i, rfl, fun j q => by rw [Nat.testBit_or, h1 j q, Bool.true_or], fun j q => ?_, fun v hv hv2 j q => ?_⟩
        · simp only [G_10_17, J_10_17_j44]
          rw [hB.1, if_neg (nI_ge hi (by omega)), if_neg (by rw [tb0 ht (by omega)]; exact fun q => q hb), c8 hE (by omega)]
          show some (Sum.inl (nI t ||| nI (nb E i), nI i + 1)) = _
          rw [fa_or, nI_1]
        · rw [Nat.testBit_or, Bool.or_eq_true] at q
          rcases q with q | q
          · exact h2 j q
          · rw [nb_ad h] at q
            refine bl_all h h1n (m := n - 1 + 1) ?_
            rw [bl_succ h]
            exact .inr ⟨q.1, i, hi, h2 i hb, q.2⟩
        · rcases Nat.lt_or_ge v i with h4 | h4
          · rw [Nat.testBit_or, h3 v h4 hv2 j q, Bool.true_or]
          · obtain rfl : v = i := by omega
            rw [Nat.testBit_or, q, Bool.or_true]
      · refine ⟨(nI t, nI (i + 1)), ?_, t, rfl, h1, h2, fun v hv hv2 j q => ?_⟩
        · simp only [G_10_17, J_10_17_j44]
          rw [hB.1, if_neg (nI_ge hi (by omega)), if_pos ((tb0 ht (by omega)).mpr hb), nI_1]
        · rcases Nat.lt_or_ge v i with h4 | h4
          · exact h3 v h4 hv2 j q
          · obtain rfl : v = i := by omega
            exact absurd (h1 v hv2) hb
    · rintro st ⟨t, rfl, h1, h2, h3⟩
      refine ⟨nI t, ?_, t, rfl, fun j q => ?_, h2⟩
      · simp only [G_10_17]
        rw [hB.1, if_pos (nI_le (Nat.le_refl _) (by omega))]
      · rw [bl_succ h] at q
        rcases q with q | ⟨h0, v, h4, h5, h6⟩
        · exact h1 j (hs1 j q)
        · exact h3 v h4 (hs1 v h5) j ((nb_ad h).mpr ⟨h0, h6⟩)
  obtain ⟨x, e1, t, rfl, h1, h2⟩ : ∃ x, lw (G_10_5 B (lN E)) 200000 (1, 1) = some x ∧ ∃ t, x = nI t ∧ (∀ j, (bl n E 0 (n - 1)).testBit j = true → t.testBit j = true) ∧ (∀ j, t.testBit j = true → (bl n E 0 (n - 1)).testBit j = true) := by
    refine lw_for (n := n - 1) (fun i st => ∃ t, st = (nI t, nI (i + 1)) ∧ (∀ j, (bl n E 0 i).testBit j = true → t.testBit j = true) ∧ (∀ j, t.testBit j = true → (bl n E 0 (n - 1)).testBit j = true)) ?_ ?_ ⟨1, rfl, fun j q => q, fun j q => bl_mono (k := 0) (Nat.zero_le _) q⟩ (by omega)
    · rintro i st hi ⟨t, rfl, h1, h2⟩
      left
      obtain ⟨x, e1, t2, rfl, h3, h4⟩ := inner i t (nI (i + 1)) h1 h2
      refine ⟨(nI t2, nI (i + 1 + 1)), ?_, t2, rfl, h3, h4⟩
      simp only [G_10_5]
      rw [hB.1, if_neg (nI_ge (by omega) (by omega)), e1, Option.bind_some, nI_1]
    · rintro st ⟨t, rfl, h1, h2⟩
      refine ⟨nI t, ?_, t, rfl, h1, h2⟩
      simp only [G_10_5]
      rw [hB.1, if_pos (nI_le (by omega) (by omega))]
  have e2 : t = bl n E 0 (n - 1) := bit_ext fun j => bl_tr ⟨h2 j, h1 j⟩
  subst e2
  have h64 : bl n E 0 (n - 1) < 64 := bl_lt64 h h1n
  have hp := pcn_le (bl n E 0 (n - 1)) n
  simp only [F_10, J_10_0_j72]
  rw [e1, Option.bind_some, c253 _ h64, Option.bind_some, hB.1, pcn_six (bl_lt h h1n) hn]
  by_cases hq : pcn (bl n E 0 (n - 1)) n = n
  · rw [if_neg (by rw [hq]; exact fun q => q rfl), decide_eq_true hq]; rfl
  · rw [if_pos (by rw [nI_eq (by omega) (by omega)]; exact hq), decide_eq_false hq]; rfl
theorem Cn_pcn {n E : Nat} : pcn (bl n E 0 (n - 1)) n = n ↔ Cn n E := by
  constructor
  · intro h v hv
    exact pcn_full h v hv
  · intro h
    have key : ∀ m, m ≤ n → pcn (bl n E 0 (n - 1)) m = m := fun m => by
      induction m with
      | zero => intro _; rfl
      | succ m ih =>
        intro hm
        have := ih (by omega)
        unfold pcn at this ⊢
        rw [sm, this, if_pos (h m (by omega))]
    exact key n (Nat.le_refl _)
/-- distances from a vertex -/
theorem c14 {n E u : Nat} {B : Bd} (hB : CB n E B) (h : Gr n E) (hc : Cn n E) (hu : u < n) : ∃ f, F_14 B (nI u) = some (B.w_distances f) ∧ (∀ v, v < n → f (6 * u + v) = nI (ds n E u v)) ∧ (∀ j, (∀ v, v < n → ¬ j = 6 * u + v) → f j = B.distances j) := by
  have hE := h.E_lt
  have hn := h.2.1
  have h1n := h.1
  have inner : ∀ (k : Nat) (r : Nat) (x2 : Int32) (B' : Bd), k < 6 → r < 64 → (∀ v, v < n → (r.testBit v = true ↔ ds n E u v = k)) → CB n E B' → 
      ∃ x, lw (G_14_28 (nI u) x2 (nI r) (nI k)) 200000 (0, 0, B') = some x ∧ ∃ f, x = (nI (nbs E r n), B'.w_distances f) ∧ (∀ v, v < n → ds n E u v = k → f (6 * u + v) = nI k) ∧ (∀ j, (∀ v, v < n → ds n E u v = k → ¬ j = 6 * u + v) → f j = B'.distances j) := by
    intro k r x2 B' hk hr hrr hB'
    refine lw_for (n := n) (fun i st => ∃ f, st = (nI (nbs E r i), nI i, B'.w_distances f) ∧ (∀ v, v < i → ds n E u v = k → f (6 * u + v) = nI k) ∧ (∀ j, (∀ v, v < i → ds n E u v = k → ¬ j = 6 * u + v) → f j = B'.distances j)) ?_ ?_ ⟨B'.distances, rfl, fun v hv => absurd hv (Nat.not_lt_zero _), fun _ _ => rfl⟩ (by omega)
    · rintro i st hi ⟨f, rfl, h1, h2⟩
      left
      have hv' : (B'.w_distances f).vertices = nI n := hB'.1
      by_cases hb : r.testBit i = true
      · refine ⟨(nI (nbs E r (i + 1)), nI (i + 1), B'.w_distances (upd f (6 * u + i) (nI k))), ?_, _, rfl, fun v hv hd => ?_, fun j hj => ?_⟩
        · simp only [G_14_28, J_14_28_j71]
          rw [hv', if_neg (nI_ge hi (by omega)), if_neg (by rw [tb0 (by omega) (by omega)]; exact fun q => q hb), li6, ixn (by omega) (by decide), Option.bind_some, Option.bind_some]
          have hB2 : CB n E ((B'.w_distances f).w_distances (upd (B'.w_distances f).distances (6 * u + i) (nI k))) := hB'
          rw [c9 hB2 hE (by omega), Option.bind_some, fa_or, nI_1]
          have e3 : nbs E r (i + 1) = nbs E r i ||| nb E i := by unfold nbs; rw [om, if_pos hb]
          rw [e3]
          rfl
        · by_cases h3 : v = i
          · subst h3; exact pk_us
          · rw [pk_un (by omega)]; exact h1 v (by omega) hd
        · rw [pk_un (hj i (by omega) ((hrr i hi).mp hb))]
          exact h2 j fun v hv => hj v (by omega)
      · refine ⟨(nI (nbs E r (i + 1)), nI (i + 1), B'.w_distances f), ?_, f, rfl, fun v hv hd => ?_, fun j hj => h2 j fun v hv => hj v (by omega)⟩
        · simp only [G_14_28, J_14_28_j71]
          rw [hv', if_neg (nI_ge hi (by omega)), if_pos ((tb0 (by omega) (by omega)).mpr hb), nI_1]
          have e3 : nbs E r (i + 1) = nbs E r i := by unfold nbs; rw [om, if_neg hb, Nat.or_zero]
          rw [e3]
        · rcases Nat.lt_or_ge v i with h4 | h4
          · exact h1 v h4 hd
          · obtain rfl : v = i := by omega
            exact absurd ((hrr v hi).mpr hd) hb
    · rintro st ⟨f, rfl, h1, h2⟩
      refine ⟨(nI (nbs E r n), B'.w_distances f), ?_, f, rfl, h1, h2⟩
      have hv' : (B'.w_distances f).vertices = nI n := hB'.1
      simp only [G_14_28]
      rw [hv', if_pos (nI_le (Nat.le_refl _) (by omega))]
  have outer : ∃ x, lw (G_14_9 (nI u)) 200000 (0, nI (1 <<< u), 0, B) = some x ∧ ∃ f, x = B.w_distances f ∧ (∀ v, v < n → f (6 * u + v) = nI (ds n E u v)) ∧ (∀ j, (∀ v, v < n → ¬ j = 6 * u + v) → f j = B.distances j) := by
    refine lw_for (n := n) (fun i st => ∃ f m r, st = (nI m, nI r, nI i, B.w_distances f) ∧ m < 64 ∧ r < 64 ∧ (∀ v, m.testBit v = true ↔ ds n E u v < i) ∧ (∀ v, r.testBit v = true ↔ v < n ∧ ds n E u v = i) ∧ (∀ v, v < n → ds n E u v < i → f (6 * u + v) = nI (ds n E u v)) ∧ (∀ j, (∀ v, v < n → ¬ j = 6 * u + v) → f j = B.distances j)) ?_ ?_ ?_ (by omega)
    · rintro i st hi ⟨f, m, r, rfl, hm, hr, h1, h2, h3, h4⟩
      left
      obtain ⟨x, e1, g, rfl, h5, h6⟩ := inner i r (nI (m ||| r)) (B.w_distances f) (by omega) hr (fun v hv => ⟨fun q => ((h2 v).mp q).2, fun q => (h2 v).mpr ⟨hv, q⟩⟩) hB
      have hin : ∀ v, ds n E u v ≤ i → v < n := fun v q => bl_in h hu ((ds_le (n := n) (E := E) (u := u) (v := v) (k := i) (by omega)).mpr q)
      have hmr : (m ||| r) = bl n E u i := bit_ext fun j => bl_tr (by
        rw [Nat.testBit_or, Bool.or_eq_true, h1, h2, ds_le (by omega)]
        have := hin j
        omega)
      have hnx : ∀ v, (nd (nbs E r n) (m ||| r)).testBit v = true ↔ v < n ∧ ds n E u v = i + 1 := by
        intro v
        rw [hmr, nd_bit, Bool.and_eq_true, Bool.not_eq_true']
        constructor
        · rintro ⟨h7, h8⟩
          rw [nbs_ad h] at h7
          obtain ⟨h0, w, h9, h10, h11⟩ := h7
          have h12 : ¬ ds n E u v ≤ i := fun q => by rw [(ds_le (by omega)).mpr q] at h8; cases h8
          have h13 : (bl n E u (i + 1)).testBit v = true := (bl_succ h).mpr (.inr ⟨h0, w, h9, (ds_le (by omega)).mpr (by have := ((h2 w).mp h10).2; omega), h11⟩)
          by_cases h14 : i + 1 < 6
          · have := (ds_le (n := n) (E := E) (u := u) (v := v) h14).mp h13
            exact ⟨h0, by omega⟩
          · have h15 : i = n - 1 := by omega
            exfalso
            have := hc.ds h hu h0
            omega
        · rintro ⟨hvn, h7⟩
          have hu6 : ds n E u v < 6 := by have := hc.ds h hu hvn; omega
          obtain ⟨w, h8, h9, h10, h11⟩ := ds_par h hu (fun q => by subst q; rw [ds_self] at h7; omega) hu6
          refine ⟨(nbs_ad h).mpr ⟨hvn, w, h8, (h2 w).mpr ⟨h8, by omega⟩, h9⟩, ?_⟩
          cases hb : (bl n E u i).testBit v with
          | false => rfl
          | true => have := (ds_le (by omega)).mp hb; omega
      have hlt : nd (nbs E r n) (m ||| r) < 64 := by
        have : nd (nbs E r n) (m ||| r) < 2 ^ 6 := bit_lt fun i hi => by
          rw [nd_bit, bit_ge (show nbs E r n < 2 ^ 6 from nbs_lt E r n) hi, Bool.false_and]
        exact this
      refine ⟨(nI (m ||| r), nI (nd (nbs E r n) (m ||| r)), nI (i + 1), B.w_distances g), ?_, g, m ||| r, nd (nbs E r n) (m ||| r), rfl, Nat.or_lt_two_pow (n := 6) hm hr, hlt, fun v => ?_, hnx, fun v hv hd => ?_, fun j hj => ?_⟩
      · simp only [G_14_9]
        have hv' : (B.w_distances f).vertices = nI n := hB.1
        rw [hv', if_neg (nI_ge hi (by omega)), fa_or]
        simp only [z0] at e1 ⊢
        rw [e1]
        show some (Sum.inl (nI (m ||| r), nI (nbs E r n) &&& (nI (m ||| r) ^^^ (-1)), nI i + 1, _)) = _
        rw [nd_n, nI_1]
        rfl
      · rw [Nat.testBit_or, Bool.or_eq_true, h1, h2]; have := hin v; omega
      · by_cases h7 : ds n E u v = i
        · rw [h5 v hv h7, h7]
        · rw [h6 (6 * u + v) (fun w hw hdw q => by
            have : v = w := by omega
            subst this; exact h7 hdw)]
          exact h3 v hv (by omega)
      · rw [h6 j fun v hv _ => hj v hv]
        exact h4 j hj
    · rintro st ⟨f, m, r, rfl, hm, hr, h1, h2, h3, h4⟩
      refine ⟨B.w_distances f, ?_, f, rfl, fun v hv => h3 v hv (by have := hc.ds h hu hv; omega), h4⟩
      have hv' : (B.w_distances f).vertices = nI n := hB.1
      simp only [G_14_9]
      rw [hv', if_pos (nI_le (Nat.le_refl _) (by omega))]
    · refine ⟨B.distances, 0, 1 <<< u, rfl, by decide, ?_, fun v => ?_, fun v => ?_, fun v hv hd => absurd hd (Nat.not_lt_zero _), fun _ _ => rfl⟩
      · have : 1 <<< u < 2 ^ 6 := by rw [Nat.one_shiftLeft]; exact Nat.pow_lt_pow_right (by decide) (by omega)
        exact this
      · simp
      · rw [one_shl_bit, decide_eq_true_eq]
        exact ⟨fun q => by subst q; exact ⟨hu, ds_self⟩, fun q => (ds_zero q.2).symm⟩
  obtain ⟨x, e1, f, rfl, h1, h2⟩ := outer
  refine ⟨f, ?_, h1, h2⟩
  unfold F_14
  rw [show (1 : Int32) <<< (nI u &&& 31) = nI (1 <<< u) from shl_n 1 (by omega), e1]
  rfl
theorem c13 {n E : Nat} {B : Bd} (hB : CB n E B) (h : Gr n E) (hc : Cn n E) : ∃ f, F_13 B = some (B.w_distances f) ∧ CD n E (B.w_distances f) := by
  have hn := h.2.1
  obtain ⟨x, e1, f, rfl, h1⟩ : ∃ x, lw (G_13_2) 200000 (0, B) = some x ∧ ∃ f, x = B.w_distances f ∧ ∀ u v, u < n → v < n → f (6 * u + v) = nI (ds n E u v) := by
    refine lw_for (n := n) (fun i st => ∃ f, st = (nI i, B.w_distances f) ∧ ∀ u v, u < i → v < n → f (6 * u + v) = nI (ds n E u v)) ?_ ?_ ⟨B.distances, rfl, fun u v hu => absurd hu (Nat.not_lt_zero _)⟩ (by omega)
    · rintro i st hi ⟨f, rfl, h1⟩
      left
      have hB' : CB n E (B.w_distances f) := hB
      obtain ⟨g, e1, h2, h3⟩ := c14 hB' h hc hi
      refine ⟨(nI (i + 1), B.w_distances g), ?_, g, rfl, fun u v hu hv => ?_⟩
      · simp only [G_13_2]
        rw [hB'.1, if_neg (nI_ge hi (by omega)), e1, Option.bind_some, nI_1]
        rfl
      · by_cases h4 : u = i
        · subst h4; exact h2 v hv
        · rw [h3 (6 * u + v) (fun w hw => by omega)]
          exact h1 u v (by omega) hv
    · rintro st ⟨f, rfl, h1⟩
      refine ⟨B.w_distances f, ?_, f, rfl, h1⟩
      have hB' : CB n E (B.w_distances f) := hB
      simp only [G_13_2]
      rw [hB'.1, if_pos (nI_le (Nat.le_refl _) (by omega))]
  refine ⟨f, ?_, fun u v hu hv => h1 u v hu hv⟩
  unfold F_13
  rw [e1]
  rfl
