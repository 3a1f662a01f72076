/-! ===== THE MODEL'S GRAPH ===== -/
def MR (n E : Nat) (R : Nat → Int32) : Prop := R 0 = nI n ∧ ∀ v, v < 6 → R (1 + v) = nI (nb E v)
def MP (p : Nat → Nat) (R : Nat → Int32) : Prop := ∀ v, v < 6 → R (7 + v) = nI (p v)
theorem i1a (v : Nat) : (1 : Int32) + nI v = nI (1 + v) := nI_add 1 v
theorem i7a (v : Nat) : (7 : Int32) + nI v = nI (7 + v) := nI_add 7 v
theorem m136 {s k : Nat} (hs : s < 2 ^ 31) (hk : k < 32) : F_136 (nI s) (nI k) = some (bI (s.testBit k)) := by
  simp only [F_136, J_136_0_j14]
  by_cases h : s.testBit k = true
  · rw [if_neg (by rw [tb1 hs hk]; exact fun q => q h), h]; rfl
  · rw [if_pos (by rw [tb1 hs hk]; exact h), (by simpa using h : s.testBit k = false)]; rfl
theorem l_lt0 {x y : Int64} : lg_cmp x y < 0 ↔ x < y := by
  unfold lg_cmp
  by_cases h1 : x > y
  · rw [if_pos h1]
    refine ⟨fun h => absurd h (by decide), fun h => ?_⟩
    rw [fa_lt64] at h
    have h2 : y < x := h1
    rw [fa_lt64] at h2
    omega
  · rw [if_neg h1]
    by_cases h2 : x = y
    · rw [if_pos h2]
      subst h2
      exact ⟨fun h => absurd h (by decide), fun h => by rw [fa_lt64] at h; omega⟩
    · rw [if_neg h2]
      refine ⟨fun _ => ?_, fun _ => by decide⟩
      have h3 : ¬ y < x := h1
      rw [fa_lt64] at h3 ⊢
      rw [fa_eq64] at h2
      omega
theorem l_gt0 {x y : Int64} : 0 < lg_cmp x y ↔ y < x := by
  unfold lg_cmp
  by_cases h1 : x > y
  · rw [if_pos h1]; exact ⟨fun _ => h1, fun _ => by decide⟩
  · rw [if_neg h1]
    by_cases h2 : x = y
    · rw [if_pos h2]; exact ⟨fun h => absurd h (by decide), fun h => absurd h h1⟩
    · rw [if_neg h2]; exact ⟨fun h => absurd h (by decide), fun h => absurd h h1⟩
theorem m134 (x y z : Int32) : F_134 x.toInt64 y.toInt64 z.toInt64 = some (bI (decide (y ≤ x ∧ x ≤ z))) := by
  simp only [F_134, J_134_0_j17, J_134_0_j18, l_lt0, l_gt0, fa_wide_lt]
  by_cases h1 : x < y
  · rw [if_pos h1, decide_eq_false (by rw [fa_le, fa_le]; rw [fa_lt] at h1; omega)]; rfl
  · rw [if_neg h1]
    by_cases h2 : z < x
    · rw [if_pos h2, decide_eq_false (by rw [fa_le, fa_le]; rw [fa_lt] at h2; omega)]; rfl
    · rw [if_neg h2, decide_eq_true (by rw [fa_le, fa_le]; rw [fa_lt] at h1 h2; omega)]; rfl
/-- a vertex or not -/
def isv (n : Nat) (x : Int32) : Bool := decide (0 ≤ x ∧ x < nI n)
theorem isv_t {n v : Nat} (h : v < n) (hn : n < 2 ^ 31) : isv n (nI v) = true := decide_eq_true ⟨nI_pos' (by omega), nI_lt h hn⟩
theorem isv_of {n : Nat} {x : Int32} (hn : n < 2 ^ 31) (h : isv n x = true) : ∃ v, v < n ∧ x = nI v := by
  have h1 := of_decide_eq_true h
  rcases pk_ix x hn with h2 | h2 | h2
  · rw [fa_lt] at h2; have := h1.1; rw [fa_le] at this; omega
  · have := h1.2; rw [fa_lt] at this; rw [fa_le] at h2; omega
  · exact h2
theorem m_le {n : Nat} {x : Int32} (h0 : 0 < n) (hn : n < 2 ^ 31) : x ≤ nI n - 1 ↔ x < nI n := by
  rw [z1, pk_sub h0, fa_le, fa_lt, nI_toInt (by omega), nI_toInt hn]
  omega
theorem m172 {n : Nat} {M : Md} (h : M.now 0 = nI n) (h0 : 0 < n) (hn : n < 2 ^ 31) (x : Int32) : F_172 M x = some (bI (isv n x)) := by
  simp only [F_172]
  rw [show ix 0 93 = some 0 from ixn (i := 0) (by decide) (by decide), Option.bind_some, h, show (0 : Int64) = (0 : Int32).toInt64 from rfl, m134, Option.bind_some, bI_ok]
  simp only [isv, m_le h0 hn]
theorem m173 {n : Nat} {M : Md} (h : M.now 0 = nI n) (h0 : 0 < n) (hn : n < 2 ^ 31) (x y : Int32) : F_173 M x y = some (bI (isv n x && isv n y)) := by
  simp only [F_173, J_173_0_j20, J_173_0_j21]
  rw [m172 h h0 hn, Option.bind_some, m172 h h0 hn, Option.bind_some]
  cases isv n x
  · rfl
  · cases isv n y <;> rfl
theorem m175 {n E : Nat} {M : Md} (h : MR n E M.now) {u v : Nat} (hu : u < 6) (hv : v < 6) : F_175 M (nI u) (nI v) = some (bI (ad E u v)) := by
  simp only [F_175]
  rw [i1a, ixn (by omega) (by decide), Option.bind_some, h.2 u hu, m136 (by have := nb_lt E u; omega) (by omega), Option.bind_some, bI_ok, nb_bit, decide_eq_true hv, Bool.true_and]
theorem m176 {p : Nat → Nat} {M : Md} (h : MP p M.now) {u : Nat} (hu : u < 6) : F_176 M (nI u) = some (nI (p u)) := by
  simp only [F_176]
  rw [z7, nI_add, ixn (by omega) (by decide), Option.bind_some, h u hu]
/-- what can be come to from the vertex 0 -/
theorem m153 {n E : Nat} {R : Nat → Int32} (hR : MR n E R) (h : Gr n E) : F_153 93 R = some (nI (bl n E 0 (n - 1))) := by
  have hn := h.2.1
  have h1n := h.1
  have inner : ∀ (x1 : Int32) (r : Nat), r < 64 → lw (G_153_13 93 R x1 (nI r)) 200000 (0, 0) = some (nI (nbs E r n)) := by
    intro x1 r hr
    refine lw_seq (fun i => (nI (nbs E r i), nI i)) (n := n) ?_ ?_ (by omega)
    · intro i hi
      simp only [G_153_13, J_153_13_j41]
      rw [show ix 0 93 = some 0 from ixn (i := 0) (by decide) (by decide), Option.bind_some, hR.1, if_neg (nI_ge hi (by omega)), m136 (by omega) (by omega), Option.bind_some]
      by_cases hb : r.testBit i = true
      · have e3 : nbs E r (i + 1) = nbs E r i ||| nb E i := by unfold nbs; rw [om, if_pos hb]
        rw [if_neg (by rw [bI_0]; exact fun q => q hb), z1, nI_add, ixn (by omega) (by decide), Option.bind_some, hR.2 i (by omega), fa_or, nI_add, e3]
      · have e3 : nbs E r (i + 1) = nbs E r i := by unfold nbs; rw [om, if_neg hb, Nat.or_zero]
        rw [if_pos (bI_0.mpr hb), z0, fa_or, Nat.or_zero, nI_1, e3]
    · simp only [G_153_13]
      rw [show ix 0 93 = some 0 from ixn (i := 0) (by decide) (by decide), Option.bind_some, hR.1, if_pos (nI_le (Nat.le_refl _) (by omega))]
  have stop : ∀ k, (∀ j, (bl n E 0 k).testBit j = true → 0 < k ∧ (bl n E 0 (k - 1)).testBit j = true) → bl n E 0 k = bl n E 0 (n - 1) := by
    intro k hk
    have hk0 : 0 < k := (hk 0 bl_self).1
    refine bit_ext fun j => bl_tr ⟨fun q => bl_all h h1n q, fun q => ?_⟩
    have := bl_stop (n := n) (E := E) (u := 0) (k := k - 1) h (fun j q => (hk j (by rw [show k - 1 + 1 = k by omega] at q; exact q)).2) (n - 1) j (bl_mono (by omega) q)
    exact bl_mono (by omega) this
  obtain ⟨x, e1, hx⟩ : ∃ x, lw (G_153_4 93 R) 200000 (1, 1) = some x ∧ x = nI (bl n E 0 (n - 1)) := by
    refine lw_for (n := n) (fun k st => ∃ r, st = (nI (bl n E 0 k), nI r) ∧ ∀ j, r.testBit j = true ↔ (bl n E 0 k).testBit j = true ∧ ¬ (0 < k ∧ (bl n E 0 (k - 1)).testBit j = true)) ?_ ?_ ⟨1, rfl, fun j => ⟨fun q => ⟨q, fun q2 => absurd q2.1 (by decide)⟩, fun q => q.1⟩⟩ (by omega)
    · rintro k st hk ⟨r, rfl, h1⟩
      have hr : r < 64 := by
        have : r < 2 ^ 6 := bit_lt fun i hi => by
          cases hb : r.testBit i with
          | false => rfl
          | true => have := bl_in h h1n ((h1 i).mp hb).1; omega
        exact this
      by_cases h0 : r = 0
      · right
        subst h0
        refine ⟨nI (bl n E 0 k), by simp only [G_153_4]; rw [if_pos nI_0], ?_⟩
        rw [stop k fun j q => ?_]
        exact Classical.byContradiction fun q9 => by have := (h1 j).mpr ⟨q, q9⟩; simp at this
      · left
        have e4 : (bl n E 0 k ||| nbs E r n) = bl n E 0 (k + 1) := bit_ext fun j => bl_tr (by
          rw [Nat.testBit_or, Bool.or_eq_true, bl_succ h, nbs_ad h]
          constructor
          · rintro (q | ⟨q0, v, q1, q2, q3⟩)
            · exact .inl q
            · exact .inr ⟨q0, v, q1, ((h1 v).mp q2).1, q3⟩
          · rintro (q | ⟨q0, v, q1, q2, q3⟩)
            · exact .inl q
            · by_cases q4 : 0 < k ∧ (bl n E 0 (k - 1)).testBit v = true
              · left
                have : (bl n E 0 (k - 1 + 1)).testBit j = true := (bl_succ h).mpr (.inr ⟨q0, v, q1, q4.2, q3⟩)
                rw [show k - 1 + 1 = k by omega] at this
                exact this
              · exact .inr ⟨q0, v, q1, (h1 v).mpr ⟨q2, q4⟩, q3⟩)
        refine ⟨(nI (bl n E 0 (k + 1)), nI (nd (nbs E r n) (bl n E 0 k))), ?_, nd (nbs E r n) (bl n E 0 k), rfl, fun j => ?_⟩
        · simp only [G_153_4]
          rw [if_neg (by rw [z0, nI_eq (by omega) (by decide)]; exact h0), inner _ r hr, Option.bind_some, fa_or, nd_n, e4]
        · rw [nd_bit, Bool.and_eq_true, Bool.not_eq_true', ← e4, Nat.testBit_or, Bool.or_eq_true, Nat.add_sub_cancel]
          constructor
          · rintro ⟨q1, q2⟩
            exact ⟨.inr q1, fun q3 => by rw [q3.2] at q2; cases q2⟩
          · rintro ⟨q1, q2⟩
            have q3 : ¬ (bl n E 0 k).testBit j = true := fun q => q2 ⟨by omega, q⟩
            refine ⟨?_, by simpa using q3⟩
            rcases q1 with q1 | q1
            · exact absurd q1 q3
            · exact q1
    · rintro st ⟨r, rfl, h1⟩
      have hr0 : r = 0 := Nat.eq_of_testBit_eq fun j => by
        rw [Nat.zero_testBit]
        cases hb : r.testBit j with
        | false => rfl
        | true =>
          have := (h1 j).mp hb
          exact absurd ⟨by omega, bl_all h h1n this.1⟩ this.2
      subst hr0
      refine ⟨nI (bl n E 0 n), by simp only [G_153_4]; rw [if_pos nI_0], ?_⟩
      rw [stop n fun j q => ⟨by omega, bl_all h h1n q⟩]
  unfold F_153
  rw [e1, hx]
  rfl
theorem m154 {n E : Nat} {R : Nat → Int32} (hR : MR n E R) (h : Gr n E) : F_154 93 R = some (bI (decide (pcn (bl n E 0 (n - 1)) n = n))) := by
  have hn := h.2.1
  have h1n := h.1
  have hlt := bl_lt (k := n - 1) h h1n
  have h64 : 2 ^ n ≤ 64 := Nat.pow_le_pow_right (n := 2) (by decide) hn
  have h1 : 1 ≤ 2 ^ n := Nat.one_le_two_pow
  simp only [F_154, J_154_0_j19]
  rw [m153 hR h, Option.bind_some, show ix 0 93 = some 0 from ixn (i := 0) (by decide) (by decide), Option.bind_some, hR.1, show (1 : Int32) <<< (nI n &&& 31) = nI (1 <<< n) from shl_n 1 (by omega), Nat.one_shiftLeft, z1, pk_sub h1]
  have key : bl n E 0 (n - 1) = 2 ^ n - 1 ↔ pcn (bl n E 0 (n - 1)) n = n := by
    rw [Cn_pcn]
    constructor
    · intro q v hv
      rw [q, Nat.testBit_two_pow_sub_one]
      simpa using hv
    · intro q
      refine bit_ext fun j => bl_tr ?_
      rw [Nat.testBit_two_pow_sub_one, decide_eq_true_eq]
      exact ⟨fun q2 => bl_in h h1n q2, fun q2 => q j q2⟩
  by_cases hq : pcn (bl n E 0 (n - 1)) n = n
  · rw [if_neg (by rw [nI_eq (by omega) (by omega)]; exact fun q => q (key.mpr hq)), decide_eq_true hq]; rfl
  · rw [if_pos (by rw [nI_eq (by omega) (by omega)]; exact fun q => hq (key.mp q)), decide_eq_false hq]; rfl
/-- distances from a vertex -/
def MDi (n E : Nat) (M : Md) (u : Nat) : Prop := ∀ v, v < n → M.distances (6 * u + v) = nI (ds n E u v)
theorem m181 {n E u : Nat} {M : Md} (hM : MR n E M.now) (h : Gr n E) (hc : Cn n E) (hu : u < n) : ∃ f, F_181 M (nI u) = some (M.w_distances f) ∧ (∀ v, v < n → f (6 * u + v) = nI (ds n E u v)) ∧ (∀ j, (∀ v, v < n → ¬ j = 6 * u + v) → f j = M.distances j) := by
  have hE := h.E_lt
  have hn := h.2.1
  have h1n := h.1
  have inner : ∀ (k r : Nat) (x2 : Int32) (M' : Md), k < 7 → r < 64 → (∀ v, v < n → (r.testBit v = true ↔ ds n E u v = k)) → MR n E M'.now →
      ∃ x, lw (G_181_19 (nI u) x2 (nI r) (nI k)) 200000 (0, 0, M') = some x ∧ ∃ f, x = (nI (nbs E r n), M'.w_distances f) ∧ (∀ v, v < n → ds n E u v = k → f (6 * u + v) = nI k) ∧ (∀ j, (∀ v, v < n → ds n E u v = k → ¬ j = 6 * u + v) → f j = M'.distances j) := by
    intro k r x2 M' hk hr hrr hM'
    refine lw_for (n := n) (fun i st => ∃ f, st = (nI (nbs E r i), nI i, M'.w_distances f) ∧ (∀ v, v < i → ds n E u v = k → f (6 * u + v) = nI k) ∧ (∀ j, (∀ v, v < i → ds n E u v = k → ¬ j = 6 * u + v) → f j = M'.distances j)) ?_ ?_ ⟨M'.distances, rfl, fun v hv => absurd hv (Nat.not_lt_zero _), fun _ _ => rfl⟩ (by omega)
    · rintro i st hi ⟨f, rfl, h1, h2⟩
      left
      have hv' : (M'.w_distances f).now = M'.now := rfl
      by_cases hb : r.testBit i = true
      · refine ⟨(nI (nbs E r (i + 1)), nI (i + 1), M'.w_distances (upd f (6 * u + i) (nI k))), ?_, _, rfl, fun v hv hd => ?_, fun j hj => ?_⟩
        · simp only [G_181_19, J_181_19_j67]
          rw [show ix 0 93 = some 0 from ixn (i := 0) (by decide) (by decide), Option.bind_some, hv', hM'.1, if_neg (nI_ge hi (by omega)), m136 (by omega) (by omega), Option.bind_some, if_neg (by rw [bI_0]; exact fun q => q hb), li6, ixn (by omega) (by decide), Option.bind_some, Option.bind_some, z1, nI_add, ixn (by omega) (by decide), Option.bind_some]
          show some (Sum.inl (nI (nbs E r i) ||| M'.now (1 + i), nI i + nI 1, _)) = _
          have e3 : nbs E r (i + 1) = nbs E r i ||| nb E i := by unfold nbs; rw [om, if_pos hb]
          rw [hM'.2 i (by omega), fa_or, nI_add, e3]
          rfl
        · by_cases h3 : v = i
          · subst h3; exact pk_us
          · rw [pk_un (by omega)]; exact h1 v (by omega) hd
        · rw [pk_un (hj i (by omega) ((hrr i hi).mp hb))]
          exact h2 j fun v hv => hj v (by omega)
      · refine ⟨(nI (nbs E r (i + 1)), nI (i + 1), M'.w_distances f), ?_, f, rfl, fun v hv hd => ?_, fun j hj => h2 j fun v hv => hj v (by omega)⟩
        · simp only [G_181_19, J_181_19_j67]
          have e3 : nbs E r (i + 1) = nbs E r i := by unfold nbs; rw [om, if_neg hb, Nat.or_zero]
          rw [show ix 0 93 = some 0 from ixn (i := 0) (by decide) (by decide), Option.bind_some, hv', hM'.1, if_neg (nI_ge hi (by omega)), m136 (by omega) (by omega), Option.bind_some, if_pos (bI_0.mpr hb), nI_1, e3]
        · rcases Nat.lt_or_ge v i with h4 | h4
          · exact h1 v h4 hd
          · obtain rfl : v = i := by omega
            exact absurd ((hrr v hi).mpr hd) hb
    · rintro st ⟨f, rfl, h1, h2⟩
      refine ⟨(nI (nbs E r n), M'.w_distances f), ?_, f, rfl, h1, h2⟩
      have hv' : (M'.w_distances f).now = M'.now := rfl
      simp only [G_181_19]
      rw [show ix 0 93 = some 0 from ixn (i := 0) (by decide) (by decide), Option.bind_some, hv', hM'.1, if_pos (nI_le (Nat.le_refl _) (by omega))]
  have hb1 : 1 <<< u < 64 := by
    have : 1 <<< u < 2 ^ 6 := by rw [Nat.one_shiftLeft]; exact Nat.pow_lt_pow_right (by decide) (by omega)
    exact this
  obtain ⟨x, e1, f, rfl, h1, h2⟩ : ∃ x, lw (G_181_9 (nI u)) 200000 (nI (1 <<< u), nI (1 <<< u), 0, M) = some x ∧ ∃ f, x = M.w_distances f ∧ (∀ v, v < n → f (6 * u + v) = nI (ds n E u v)) ∧ (∀ j, (∀ v, v < n → ¬ j = 6 * u + v) → f j = M.distances j) := by
    refine lw_for (n := 6) (fun i st => ∃ f r, st = (nI (bl n E u i), nI r, nI i, M.w_distances f) ∧ r < 64 ∧ (∀ v, r.testBit v = true ↔ v < n ∧ ds n E u v = i) ∧ (∀ v, v < n → ds n E u v < i → f (6 * u + v) = nI (ds n E u v)) ∧ (∀ j, (∀ v, v < n → ¬ j = 6 * u + v) → f j = M.distances j)) ?_ ?_ ?_ (by omega)
    · rintro i st hi ⟨f, r, rfl, hr, h2, h3, h4⟩
      by_cases hr0 : r = 0
      · right
        subst hr0
        refine ⟨M.w_distances f, by simp only [G_181_9]; rw [if_pos nI_0], f, rfl, fun v hv => ?_, h4⟩
        -- no vertex at distance i: none farther
        refine h3 v hv (Classical.byContradiction fun q => ?_)
        have hno : ∀ m w, w < n → ds n E u w = i + m → False := by
          intro m
          induction m with
          | zero =>
            intro w hw hd
            have := (h2 w).mpr ⟨hw, hd⟩
            simp at this
          | succ m ih =>
            intro w hw hd
            have hw6 := hc.ds h hu hw
            obtain ⟨w2, q1, -, -, q4⟩ := ds_par h hu (fun q5 => by subst q5; rw [ds_self] at hd; omega) (show ds n E u w < 6 by omega)
            exact ih w2 q1 (by omega)
        exact hno (ds n E u v - i) v hv (by omega)
      · left
        obtain ⟨x, e1, g, rfl, h5, h6⟩ := inner i r (nI (bl n E u i)) (M.w_distances f) (by omega) hr (fun v hv => ⟨fun q => ((h2 v).mp q).2, fun q => (h2 v).mpr ⟨hv, q⟩⟩) hM
        have e4 : (bl n E u i ||| nbs E r n) = bl n E u (i + 1) := bit_ext fun j => bl_tr (by
          rw [Nat.testBit_or, Bool.or_eq_true, bl_succ h, nbs_ad h]
          constructor
          · rintro (q | ⟨q0, v, q1, q2, q3⟩)
            · exact .inl q
            · exact .inr ⟨q0, v, q1, (ds_le hi).mpr (by have := ((h2 v).mp q2).2; omega), q3⟩
          · rintro (q | ⟨q0, v, q1, q2, q3⟩)
            · exact .inl q
            · by_cases q4 : ds n E u v = i
              · exact .inr ⟨q0, v, q1, (h2 v).mpr ⟨q1, q4⟩, q3⟩
              · left
                have q5 := (ds_le hi).mp q2
                have q6 : (bl n E u (i - 1 + 1)).testBit j = true := (bl_succ h).mpr (.inr ⟨q0, v, q1, (ds_le (by omega)).mpr (by omega), q3⟩)
                rw [show i - 1 + 1 = i by omega] at q6
                exact q6)
        have hlt : nd (nbs E r n) (bl n E u i) < 64 := by
          have : nd (nbs E r n) (bl n E u i) < 2 ^ 6 := bit_lt fun i hi => by
            rw [nd_bit, bit_ge (show nbs E r n < 2 ^ 6 from nbs_lt E r n) hi, Bool.false_and]
          exact this
        refine ⟨(nI (bl n E u (i + 1)), nI (nd (nbs E r n) (bl n E u i)), nI (i + 1), M.w_distances g), ?_, g, _, rfl, hlt, fun v => ?_, fun v hv hd => ?_, fun j hj => ?_⟩
        · simp only [G_181_9]
          rw [if_neg (by rw [z0, nI_eq (by omega) (by decide)]; exact hr0)]
          simp only [z0] at e1 ⊢
          rw [e1]
          show some (Sum.inl (nI (bl n E u i) ||| nI (nbs E r n), nI (nbs E r n) &&& (nI (bl n E u i) ^^^ (-1)), nI i + 1, _)) = _
          rw [fa_or, nd_n, nI_1, e4]
          rfl
        · rw [nd_bit, Bool.and_eq_true, Bool.not_eq_true']
          constructor
          · rintro ⟨q1, q2⟩
            have q3 : (bl n E u (i + 1)).testBit v = true := by rw [← e4, Nat.testBit_or, q1, Bool.or_true]
            have q4 : ¬ ds n E u v ≤ i := fun q => by rw [(ds_le hi).mpr q] at q2; cases q2
            have q0 := bl_in h hu q3
            have q5 := hc.ds h hu q0
            have q6 := (ds_le (n := n) (E := E) (u := u) (v := v) (k := i + 1) (by omega)).mp q3
            exact ⟨q0, by omega⟩
          · rintro ⟨q0, q1⟩
            have q5 := hc.ds h hu q0
            have q2 : (bl n E u (i + 1)).testBit v = true := (ds_le (by omega)).mpr (by omega)
            have q3 : (bl n E u i).testBit v = false := by
              cases hb : (bl n E u i).testBit v with
              | false => rfl
              | true => have := (ds_le hi).mp hb; omega
            rw [← e4, Nat.testBit_or, q3, Bool.false_or] at q2
            exact ⟨q2, q3⟩
        · by_cases h7 : ds n E u v = i
          · rw [h5 v hv h7, h7]
          · rw [h6 (6 * u + v) (fun w hw hdw q => by
              have : v = w := by omega
              subst this; exact h7 hdw)]
            exact h3 v hv (by omega)
        · rw [h6 j fun v hv _ => hj v hv]
          exact h4 j hj
    · rintro st ⟨f, r, rfl, hr, h2, h3, h4⟩
      have hr0 : r = 0 := Nat.eq_of_testBit_eq fun j => by
        rw [Nat.zero_testBit]
        cases hb : r.testBit j with
        | false => rfl
        | true =>
          have q := (h2 j).mp hb
          have := hc.ds h hu q.1
          omega
      subst hr0
      exact ⟨M.w_distances f, by simp only [G_181_9]; rw [if_pos nI_0], f, rfl, fun v hv => h3 v hv (by have := hc.ds h hu hv; omega), h4⟩
    · refine ⟨M.distances, 1 <<< u, rfl, hb1, fun v => ?_, fun v hv hd => absurd hd (Nat.not_lt_zero _), fun _ _ => rfl⟩
      rw [one_shl_bit, decide_eq_true_eq]
      exact ⟨fun q => by subst q; exact ⟨hu, ds_self⟩, fun q => (ds_zero q.2).symm⟩
  refine ⟨f, ?_, h1, h2⟩
  unfold F_181
  rw [show (1 : Int32) <<< (nI u &&& 31) = nI (1 <<< u) from shl_n 1 (by omega), e1]
  rfl
