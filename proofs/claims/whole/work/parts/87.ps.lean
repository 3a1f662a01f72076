/-! ===== POSITIONS; COPIES OF THEM ===== -/
/-- the class's board and the model's row hold the same position -/
def SQ (n E : Nat) (pl : Nat → Nat) (sc : Nat) (tg : Nat → Nat) (wt : Nat → Nat → Nat) (pr : Nat → Nat → Option Nat) (B : Bd) (R : Nat → Int32) : Prop :=
  CB n E B ∧ CP pl B ∧ CS n sc tg wt pr B ∧ CD n E B ∧ MR n E R ∧ MP pl R ∧ MS n sc tg wt pr R ∧ R 13 = B.moveCount ∧ Gr n E ∧ Cn n E ∧ SO n sc tg wt pr ∧ ∀ v, v < 6 → pl v ≤ 999
def SP (B : Bd) (R : Nat → Int32) : Prop := ∃ n E pl sc tg wt pr, SQ n E pl sc tg wt pr B R
theorem SP.row {B : Bd} {R R' : Nat → Int32} (h : ∀ j, j < 93 → R' j = R j) (k : SP B R) : SP B R' := by
  obtain ⟨n, E, pl, sc, tg, wt, pr, a1, a2, a3, a4, a5, a6, a7, a8, a9, a10, a11, a12⟩ := k
  have := a9.2.1
  have := a11.1
  refine ⟨n, E, pl, sc, tg, wt, pr, a1, a2, a3, a4, ⟨by rw [h _ (by decide)]; exact a5.1, fun v hv => by rw [h _ (by omega)]; exact a5.2 v hv⟩, fun v hv => by rw [h _ (by omega)]; exact a6 v hv, ⟨by rw [h _ (by decide)]; exact a7.1, fun k hk => ⟨by rw [h _ (by omega)]; exact (a7.2 k hk).1, fun v hv => ⟨by rw [h _ (by omega)]; exact ((a7.2 k hk).2 v hv).1, by rw [h _ (by omega)]; exact ((a7.2 k hk).2 v hv).2⟩⟩⟩, by rw [h _ (by decide)]; exact a8, a9, a10, a11, a12⟩
/-- a copy of a board is as good -/
theorem c2 (B O : Bd) : ∃ B', F_2 B O = some B' ∧ ∀ R, SP O R → SP B' R := by
  refine ⟨_, rfl, fun R k => ?_⟩
  obtain ⟨n, E, pl, sc, tg, wt, pr, a1, a2, a3, a4, a5, a6, a7, a8, a9, a10, a11, a12⟩ := k
  have h6 := a9.2.1
  have s6 := a11.1
  refine ⟨n, E, pl, sc, tg, wt, pr, ⟨a1.1, a1.2⟩, fun v hv => ?_, ⟨a3.1, fun k hk => ⟨?_, fun v hv => ⟨?_, ?_⟩⟩⟩, fun u v hu hv => ?_, a5, a6, a7, a8, a9, a10, a11, a12⟩
  · show va_cpy O.pile B.pile 0 0 6 v = _
    unfold va_cpy
    rw [if_pos ⟨Nat.zero_le _, by omega⟩, Nat.zero_add, Nat.sub_zero]
    exact a2 v hv
  · show va_cpy O.targets B.targets 0 0 6 k = _
    unfold va_cpy
    rw [if_pos ⟨Nat.zero_le _, by omega⟩, Nat.zero_add, Nat.sub_zero]
    exact (a3.2 k hk).1
  · show va_cpy O.weights B.weights 0 0 36 (6 * k + v) = _
    unfold va_cpy
    rw [if_pos ⟨Nat.zero_le _, by omega⟩, Nat.zero_add, Nat.sub_zero]
    exact ((a3.2 k hk).2 v hv).1
  · show va_cpy O.parents B.parents 0 0 36 (6 * k + v) = _
    unfold va_cpy
    rw [if_pos ⟨Nat.zero_le _, by omega⟩, Nat.zero_add, Nat.sub_zero]
    exact ((a3.2 k hk).2 v hv).2
  · show va_cpy O.distances B.distances 0 0 36 (6 * u + v) = _
    unfold va_cpy
    rw [if_pos ⟨Nat.zero_le _, by omega⟩, Nat.zero_add, Nat.sub_zero]
    exact a4 u v hu hv
/-- the model copies a row -/
theorem m163 {N1 N2 : Nat} (A C : Nat → Int32) {i0 j0 : Nat} (h1 : i0 + 93 ≤ N1) (h2 : j0 + 93 ≤ N2) (l1 : N1 < 2 ^ 31) (l2 : N2 < 2 ^ 31) :
    ∃ C', F_163 N1 N2 A C (nI i0) (nI j0) = some C' ∧ (∀ j, j < 93 → C' (j0 + j) = A (i0 + j)) ∧ ∀ j, (j < j0 ∨ j0 + 93 ≤ j) → C' j = C j := by
  unfold F_163
  have key := lw_for (f := G_163_3 N1 N2 A (nI i0) (nI j0)) (n := 93) (fun i (s : Int32 × (Nat → Int32)) => s.1 = nI i ∧ (∀ j, j < i → s.2 (j0 + j) = A (i0 + j)) ∧ ∀ j, (j < j0 ∨ j0 + i ≤ j) → s.2 j = C j) (Q := fun C' => (∀ j, j < 93 → C' (j0 + j) = A (i0 + j)) ∧ ∀ j, (j < j0 ∨ j0 + 93 ≤ j) → C' j = C j) ?_ ?_ (k := 200000) (s := ((0 : Int32), C)) ⟨nI_0.symm, fun j hj => absurd hj (Nat.not_lt_zero _), fun j _ => rfl⟩ (by decide)
  · obtain ⟨C', e, q1, q2⟩ := key
    exact ⟨C', e, q1, q2⟩
  · rintro i ⟨x, D⟩ hi ⟨rfl, p2, p3⟩
    left
    refine ⟨(nI i + 1, upd D (j0 + i) (A (i0 + i))), ?_, by rw [z1, nI_add], fun j hj => ?_, fun j hj => ?_⟩
    · simp only [G_163_3]
      rw [show (93 : Int32) = nI 93 from rfl, if_neg (nI_ge hi (by decide)), nI_add, ixn (by omega) l1, Option.bind_some, nI_add, ixn (by omega) l2, Option.bind_some]
    · show upd D (j0 + i) (A (i0 + i)) (j0 + j) = _
      by_cases q : j = i
      · subst q; exact pk_us
      · rw [pk_un (by omega)]; exact p2 j (by omega)
    · show upd D (j0 + i) (A (i0 + i)) j = _
      rw [pk_un (by omega)]
      exact p3 j (by omega)
  · rintro ⟨x, D⟩ ⟨rfl, p2, p3⟩
    refine ⟨D, ?_, p2, p3⟩
    simp only [G_163_3]
    rw [show (93 : Int32) = nI 93 from rfl, if_pos (nI_le (Nat.le_refl _) (by decide))]
/-- what the model keeps besides what an answer is made of -/
def MO (M M' : Md) : Prop := M'.now = M.now ∧ M'.saved = M.saved ∧ M'.history = M.history ∧ M'.entries = M.entries ∧ M'.reason = M.reason ∧ M'.isSaved = M.isSaved ∧ M'.buffer = M.buffer ∧ M'.length = M.length
theorem MO.rf (M : Md) : MO M M := ⟨rfl, rfl, rfl, rfl, rfl, rfl, rfl, rfl⟩
theorem MO.tr {A B C : Md} (h : MO A B) (k : MO B C) : MO A C := by
  obtain ⟨a1, a2, a3, a4, a5, a6, a7, a8⟩ := h
  obtain ⟨b1, b2, b3, b4, b5, b6, b7, b8⟩ := k
  exact ⟨b1.trans a1, b2.trans a2, b3.trans a3, b4.trans a4, b5.trans a5, b6.trans a6, b7.trans a7, b8.trans a8⟩
theorem MF.mo {A B : Md} (h : MF A B) : MO A B ∧ B.thrown = A.thrown := by
  obtain ⟨a1, a2, a3, a4, a5, a6, a7, a8, a9⟩ := h
  exact ⟨⟨a4, a5, a6, a7, a8, a9, a2, a3⟩, a1⟩
theorem md_thrown (M : Md) (x : Int32) : ∃ y, M.w_thrown x = y ∧ y.thrown = x ∧ MO M y := ⟨_, rfl, rfl, rfl, rfl, rfl, rfl, rfl, rfl, rfl, rfl⟩
theorem md_now (M : Md) (x : Nat → Int32) : ∃ y, M.w_now x = y ∧ y.now = x ∧ y.thrown = M.thrown ∧ y.saved = M.saved ∧ y.history = M.history ∧ y.entries = M.entries ∧ y.reason = M.reason ∧ y.isSaved = M.isSaved ∧ y.buffer = M.buffer ∧ y.length = M.length := ⟨_, rfl, rfl, rfl, rfl, rfl, rfl, rfl, rfl, rfl, rfl⟩
theorem md_he (M : Md) (x : Nat → Int32) (e : Int32) : ∃ y, (M.w_history x).w_entries e = y ∧ y.now = M.now ∧ y.thrown = M.thrown ∧ y.saved = M.saved ∧ y.history = x ∧ y.entries = e ∧ y.reason = M.reason ∧ y.isSaved = M.isSaved ∧ y.buffer = M.buffer ∧ y.length = M.length := ⟨_, rfl, rfl, rfl, rfl, rfl, rfl, rfl, rfl, rfl, rfl⟩
theorem md_hist (M : Md) (x : Nat → Int32) : ∃ y, M.w_history x = y ∧ y.now = M.now ∧ y.thrown = M.thrown ∧ y.saved = M.saved ∧ y.history = x ∧ y.entries = M.entries ∧ y.reason = M.reason ∧ y.isSaved = M.isSaved ∧ y.buffer = M.buffer ∧ y.length = M.length := ⟨_, rfl, rfl, rfl, rfl, rfl, rfl, rfl, rfl, rfl, rfl⟩
theorem md_ent (M : Md) (e : Int32) : ∃ y, M.w_entries e = y ∧ y.now = M.now ∧ y.thrown = M.thrown ∧ y.saved = M.saved ∧ y.history = M.history ∧ y.entries = e ∧ y.reason = M.reason ∧ y.isSaved = M.isSaved ∧ y.buffer = M.buffer ∧ y.length = M.length := ⟨_, rfl, rfl, rfl, rfl, rfl, rfl, rfl, rfl, rfl, rfl⟩
/-- all but history and number of entries -/
def MH (M M' : Md) : Prop := M'.now = M.now ∧ M'.saved = M.saved ∧ M'.reason = M.reason ∧ M'.isSaved = M.isSaved ∧ M'.buffer = M.buffer ∧ M'.length = M.length ∧ M'.thrown = M.thrown
theorem m166j {M : Md} {k : Nat} (he : M.entries = nI k) (hk : k < 10) : ∃ M', J_166_0_j50 M = some M' ∧ MH M M' ∧ M'.entries = nI (k + 1) ∧ (∀ j, j < 93 → M'.history (93 * k + j) = M.now j) ∧ ∀ j, j < 93 * k → M'.history j = M.history j := by
  obtain ⟨C', e, q1, q2⟩ := m163 (N1 := 93) (N2 := 930) M.now M.history (i0 := 0) (j0 := 93 * k) (by omega) (by omega) (by decide) (by decide)
  obtain ⟨X, hX, x1, x2, x3, x4, x5, x6, x7, x8, x9⟩ := md_hist M C'
  obtain ⟨Y, hY, y1, y2, y3, y4, y5, y6, y7, y8, y9⟩ := md_ent X (X.entries + 1)
  refine ⟨Y, ?_, ⟨y1.trans x1, y3.trans x3, y6.trans x6, y7.trans x7, y8.trans x8, y9.trans x9, y2.trans x2⟩, by rw [y5, x5, he, z1, nI_add], fun j hj => by rw [y4, x4, q1 j hj, Nat.zero_add], fun j hj => by rw [y4, x4]; exact q2 j (.inl hj)⟩
  unfold J_166_0_j50
  rw [he, show (93 : Int32) = nI 93 from rfl, pk_mul, show (0 : Int32) = nI 0 from rfl, e, Option.bind_some, hX, Option.bind_some, hY]
  rfl
theorem m166l {M : Md} : ∃ X, lw (G_166_12) 200000 (93, M) = some X ∧ MH M X ∧ X.entries = M.entries ∧ ∀ j, j + 93 < 930 → X.history j = M.history (j + 93) := by
  have key := lw_for (f := G_166_12) (n := 837) (fun i (s : Int32 × Md) => s.1 = nI (93 + i) ∧ MH M s.2 ∧ s.2.entries = M.entries ∧ (∀ j, j < i → s.2.history j = M.history (j + 93)) ∧ ∀ j, i ≤ j → s.2.history j = M.history j) (Q := fun X => MH M X ∧ X.entries = M.entries ∧ ∀ j, j + 93 < 930 → X.history j = M.history (j + 93)) ?_ ?_ (k := 200000) (s := ((93 : Int32), M)) ⟨rfl, ⟨rfl, rfl, rfl, rfl, rfl, rfl, rfl⟩, rfl, fun j hj => absurd hj (Nat.not_lt_zero _), fun j _ => rfl⟩ (by decide)
  · obtain ⟨X, e, q⟩ := key
    exact ⟨X, e, q⟩
  · rintro i ⟨x, Z⟩ hi ⟨rfl, p1, p2, p3, p4⟩
    left
    obtain ⟨X, hX, x1, x2, x3, x4, x5, x6, x7, x8, x9⟩ := md_hist Z (upd Z.history i (Z.history (93 + i)))
    obtain ⟨m1, m2, m3, m4, m5, m6, m7⟩ := p1
    refine ⟨(nI (93 + i) + 1, X), ?_, by rw [z1, nI_add]; rfl, ⟨x1.trans m1, x3.trans m2, x6.trans m3, x7.trans m4, x8.trans m5, x9.trans m6, x2.trans m7⟩, x5.trans p2, fun j hj => ?_, fun j hj => ?_⟩
    · simp only [G_166_12]
      rw [show (930 : Int32) = nI 930 from rfl, if_neg (nI_ge (by omega) (by decide)), ixn (by omega) (by decide), Option.bind_some, show (93 : Int32) = nI 93 from rfl, pk_sub (by omega), ixn (by omega) (by decide), Option.bind_some, show 93 + i - 93 = i by omega, hX, Option.bind_some]
    · show X.history j = _
      rw [x4]
      by_cases q : j = i
      · subst q; rw [pk_us, Nat.add_comm]; exact p4 _ (by omega)
      · rw [pk_un q]; exact p3 j (by omega)
    · show X.history j = _
      rw [x4, pk_un (by omega)]
      exact p4 j (by omega)
  · rintro ⟨x, Z⟩ ⟨rfl, p1, p2, p3, p4⟩
    refine ⟨Z, ?_, p1, p2, fun j hj => p3 j (by omega)⟩
    simp only [G_166_12]
    rw [show (930 : Int32) = nI 930 from rfl, if_pos (nI_le (by omega) (by decide))]
/-- the model keeps what is now -/
theorem m166 {M : Md} {k : Nat} (he : M.entries = nI k) (hk : k ≤ 10) : ∃ M' s, F_166 M = some M' ∧ MH M M' ∧ (s = if k = 10 then 1 else 0) ∧ M'.entries = nI (k - s + 1) ∧ (∀ j, j < 93 → M'.history (93 * (k - s) + j) = M.now j) ∧ ∀ i j, i < k - s → j < 93 → M'.history (93 * i + j) = M.history (93 * (i + s) + j) := by
  by_cases h : k = 10
  · subst h
    obtain ⟨X, e, q1, q2, q3⟩ := m166l (M := M)
    obtain ⟨Y, hY, y1, y2, y3, y4, y5, y6, y7, y8, y9⟩ := md_ent X (X.entries - 1)
    obtain ⟨Z, f, r1, r2, r3, r4⟩ := m166j (M := Y) (k := 9) (by rw [y5, q2, he]; rfl) (by decide)
    obtain ⟨m1, m2, m3, m4, m5, m6, m7⟩ := q1
    obtain ⟨n1, n2, n3, n4, n5, n6, n7⟩ := r1
    refine ⟨Z, 1, ?_, ⟨n1.trans (y1.trans m1), n2.trans (y3.trans m2), n3.trans (y6.trans m3), n4.trans (y7.trans m4), n5.trans (y8.trans m5), n6.trans (y9.trans m6), n7.trans (y2.trans m7)⟩, rfl, r2, fun j hj => by rw [show 10 - 1 = 9 from rfl, r3 j hj, y1, m1], fun i j hi hj => ?_⟩
    · unfold F_166
      rw [if_neg (by rw [he]; decide), e, Option.bind_some, hY, Option.bind_some, f]
    · rw [r4 _ (by omega), y4, q3 _ (by omega), show 93 * i + j + 93 = 93 * (i + 1) + j by omega]
  · obtain ⟨Z, f, r1, r2, r3, r4⟩ := m166j he (show k < 10 by omega)
    refine ⟨Z, 0, ?_, r1, by rw [if_neg h], r2, r3, fun i j hi hj => r4 _ (by omega)⟩
    unfold F_166
    rw [if_pos (by rw [he, show (10 : Int32) = nI 10 from rfl, nI_eq (by omega) (by decide)]; exact h), f]
