/-! ===== COPIES: System.arraycopy in Board.copyFrom ===== -/
def F_2 (B O : Bd) : Option Bd := some (O.vertices, O.edges, O.moveCount, O.strategyCount, va_cpy O.pile B.pile 0 0 6, va_cpy O.distances B.distances 0 0 36, va_cpy O.targets B.targets 0 0 6, va_cpy O.weights B.weights 0 0 36, va_cpy O.parents B.parents 0 0 36)
theorem m_2 {scr : ASc} {h : AHp} {b b2 : Nat} (hb : b + 6 ≤ am_SB) (hh : b + 6 ≤ h.length) {B O o : Bd} (hd : b2 + 6 ≤ b ∨ b + 6 ≤ b2) (hq : ∀ L : List AC, L.length = 6 → Rg (hput h b L) b2 (Bd.cells b2 O)) (hr : F_2 B O = some o) : Rn scr 2 2 [.ref b, .ref b2] (hput h b (Bd.cells b B)) (.inl none, hput h b (Bd.cells b o), 0, 0) := by
  have z0 : (0 : Int32).toNatClampNeg = 0 := by decide
  have z6 : (6 : Int32).toNatClampNeg = 6 := by decide
  have z36 : (36 : Int32).toNatClampNeg = 36 := by decide
  have z36' : (Int8.ofInt 36).toInt32.toNatClampNeg = 36 := by decide
  have z6' : (Int8.ofInt 6).toInt32.toNatClampNeg = 6 := by decide
  obtain ⟨B1, h1⟩ : ∃ B1, some (B.w_vertices O.vertices) = some B1 := ⟨_, rfl⟩
  obtain ⟨B2, h2⟩ : ∃ B2, some (B1.w_edges O.edges) = some B2 := ⟨_, rfl⟩
  obtain ⟨B3, h3⟩ : ∃ B3, some (B2.w_moveCount O.moveCount) = some B3 := ⟨_, rfl⟩
  obtain ⟨B4, h4⟩ : ∃ B4, some (B3.w_strategyCount O.strategyCount) = some B4 := ⟨_, rfl⟩
  obtain ⟨B5, h5⟩ : ∃ B5, some (B4.w_pile (va_cpy O.pile B4.pile 0 0 6)) = some B5 := ⟨_, rfl⟩
  obtain ⟨B6, h6⟩ : ∃ B6, some (B5.w_distances (va_cpy O.distances B5.distances 0 0 36)) = some B6 := ⟨_, rfl⟩
  obtain ⟨B7, h7⟩ : ∃ B7, some (B6.w_targets (va_cpy O.targets B6.targets 0 0 6)) = some B7 := ⟨_, rfl⟩
  obtain ⟨B8, h8⟩ : ∃ B8, some (B7.w_weights (va_cpy O.weights B7.weights 0 0 36)) = some B8 := ⟨_, rfl⟩
  obtain ⟨B9, h9⟩ : ∃ B9, some (B8.w_parents (va_cpy O.parents B8.parents 0 0 36)) = some B9 := ⟨_, rfl⟩
  have e9 : B9 = o := by
    cases h1; cases h2; cases h3; cases h4; cases h5; cases h6; cases h7; cases h8; cases h9
    exact Option.some.inj hr
  have l2 : ∀ i, i < 6 → b2 + i < am_SB := fun i hi => (hq (Bd.cells b B) rfl).lt hi
  refine x_meth (M := am_M2) rfl (show 2 ≤ 2 by decide) ?_
  show Ex 1 am_M2 scr (0, [some (.ref b), some (.ref b2)], [], hput h b (Bd.cells b B), 0, 0) _
  refine x_ldan rfl rfl rfl (h_lt (i := 0) hb (by decide)) ?_
  refine x_ldan rfl rfl rfl (l2 0 (by decide)) ?_
  refine x_getf rfl rfl (l2 0 (by decide)) ((hq (Bd.cells b B) rfl).at (i := 0) rfl) rfl ?_
  refine x_putf (H := hput h b (Bd.cells b B1)) rfl rfl (h_lt (i := 0) hb (by decide)) (hp_at (i := 0) hh rfl rfl) ⟨(show 0 < 9 by decide), rfl, rfl, nofun⟩ (hp_set (i := 0) hh rfl (by decide) (Bd.s_vertices rfl h1)) ?_
  refine x_ldan rfl rfl rfl (h_lt (i := 0) hb (by decide)) ?_
  refine x_ldan rfl rfl rfl (l2 0 (by decide)) ?_
  refine x_getf rfl rfl (l2 0 (by decide)) ((hq (Bd.cells b B1) rfl).at (i := 0) rfl) rfl ?_
  refine x_putf (H := hput h b (Bd.cells b B2)) rfl rfl (h_lt (i := 0) hb (by decide)) (hp_at (i := 0) hh rfl rfl) ⟨(show 1 < 9 by decide), rfl, rfl, nofun⟩ (hp_set (i := 0) hh rfl (by decide) (Bd.s_edges rfl h2)) ?_
  refine x_ldan rfl rfl rfl (h_lt (i := 0) hb (by decide)) ?_
  refine x_ldan rfl rfl rfl (l2 0 (by decide)) ?_
  refine x_getf rfl rfl (l2 0 (by decide)) ((hq (Bd.cells b B2) rfl).at (i := 0) rfl) rfl ?_
  refine x_putf (H := hput h b (Bd.cells b B3)) rfl rfl (h_lt (i := 0) hb (by decide)) (hp_at (i := 0) hh rfl rfl) ⟨(show 2 < 9 by decide), rfl, rfl, nofun⟩ (hp_set (i := 0) hh rfl (by decide) (Bd.s_moveCount rfl h3)) ?_
  refine x_ldan rfl rfl rfl (h_lt (i := 0) hb (by decide)) ?_
  refine x_ldan rfl rfl rfl (l2 0 (by decide)) ?_
  refine x_getf rfl rfl (l2 0 (by decide)) ((hq (Bd.cells b B3) rfl).at (i := 0) rfl) rfl ?_
  refine x_putf (H := hput h b (Bd.cells b B4)) rfl rfl (h_lt (i := 0) hb (by decide)) (hp_at (i := 0) hh rfl rfl) ⟨(show 3 < 9 by decide), rfl, rfl, nofun⟩ (hp_set (i := 0) hh rfl (by decide) (Bd.s_strategyCount rfl h4)) ?_
  refine x_ldan rfl rfl rfl (l2 0 (by decide)) ?_
  refine x_getf rfl rfl (l2 0 (by decide)) ((hq (Bd.cells b B4) rfl).at (i := 0) rfl) rfl ?_
  refine x_b 1 (S2 := (37, [some (.ref b), some (.ref b2)], [.int 0, .ref (b2 + 1)], hput h b (Bd.cells b B4), 0, 0)) rfl ?_
  refine x_ldan rfl rfl rfl (h_lt (i := 0) hb (by decide)) ?_
  refine x_getf rfl rfl (h_lt (i := 0) hb (by decide)) (hp_at (i := 0) hh rfl rfl) rfl ?_
  refine x_b 2 (S2 := (44, [some (.ref b), some (.ref b2)], [.int 6, .int 0, .ref (b + 1), .int 0, .ref (b2 + 1)], hput h b (Bd.cells b B4), 0, 0)) rfl ?_
  refine x_copy (H := hput h b (Bd.cells b B5)) rfl rfl (h_lt (i := 1) hb (by decide)) (l2 1 (by decide)) (by decide) ((hq (Bd.cells b B4) rfl).at (i := 1) rfl) (hp_at (i := 1) hh rfl rfl) (Or.inl rfl) (by decide) (by rw [z0, z6]; exact hp_set (i := 1) hh rfl (by decide) (Bd.s_pile h5)) ?_
  refine x_ldan rfl rfl rfl (l2 0 (by decide)) ?_
  refine x_getf rfl rfl (l2 0 (by decide)) ((hq (Bd.cells b B5) rfl).at (i := 0) rfl) rfl ?_
  refine x_b 1 (S2 := (52, [some (.ref b), some (.ref b2)], [.int 0, .ref (b2 + 2)], hput h b (Bd.cells b B5), 0, 0)) rfl ?_
  refine x_ldan rfl rfl rfl (h_lt (i := 0) hb (by decide)) ?_
  refine x_getf rfl rfl (h_lt (i := 0) hb (by decide)) (hp_at (i := 0) hh rfl rfl) rfl ?_
  refine x_b 2 (S2 := (59, [some (.ref b), some (.ref b2)], [.int 36, .int 0, .ref (b + 2), .int 0, .ref (b2 + 2)], hput h b (Bd.cells b B5), 0, 0)) rfl ?_
  refine x_copy (H := hput h b (Bd.cells b B6)) rfl rfl (h_lt (i := 2) hb (by decide)) (l2 2 (by decide)) (by decide) ((hq (Bd.cells b B5) rfl).at (i := 2) rfl) (hp_at (i := 2) hh rfl rfl) (Or.inl rfl) (by decide) (by rw [z0, z36]; exact hp_set (i := 2) hh rfl (by decide) (Bd.s_distances h6)) ?_
  refine x_ldan rfl rfl rfl (l2 0 (by decide)) ?_
  refine x_getf rfl rfl (l2 0 (by decide)) ((hq (Bd.cells b B6) rfl).at (i := 0) rfl) rfl ?_
  refine x_b 1 (S2 := (67, [some (.ref b), some (.ref b2)], [.int 0, .ref (b2 + 3)], hput h b (Bd.cells b B6), 0, 0)) rfl ?_
  refine x_ldan rfl rfl rfl (h_lt (i := 0) hb (by decide)) ?_
  refine x_getf rfl rfl (h_lt (i := 0) hb (by decide)) (hp_at (i := 0) hh rfl rfl) rfl ?_
  refine x_b 2 (S2 := (74, [some (.ref b), some (.ref b2)], [.int 6, .int 0, .ref (b + 3), .int 0, .ref (b2 + 3)], hput h b (Bd.cells b B6), 0, 0)) rfl ?_
  refine x_copy (H := hput h b (Bd.cells b B7)) rfl rfl (h_lt (i := 3) hb (by decide)) (l2 3 (by decide)) (by decide) ((hq (Bd.cells b B6) rfl).at (i := 3) rfl) (hp_at (i := 3) hh rfl rfl) (Or.inl rfl) (by decide) (by rw [z0, z6]; exact hp_set (i := 3) hh rfl (by decide) (Bd.s_targets h7)) ?_
  refine x_ldan rfl rfl rfl (l2 0 (by decide)) ?_
  refine x_getf rfl rfl (l2 0 (by decide)) ((hq (Bd.cells b B7) rfl).at (i := 0) rfl) rfl ?_
  refine x_b 1 (S2 := (82, [some (.ref b), some (.ref b2)], [.int 0, .ref (b2 + 4)], hput h b (Bd.cells b B7), 0, 0)) rfl ?_
  refine x_ldan rfl rfl rfl (h_lt (i := 0) hb (by decide)) ?_
  refine x_getf rfl rfl (h_lt (i := 0) hb (by decide)) (hp_at (i := 0) hh rfl rfl) rfl ?_
  refine x_b 2 (S2 := (89, [some (.ref b), some (.ref b2)], [.int 36, .int 0, .ref (b + 4), .int 0, .ref (b2 + 4)], hput h b (Bd.cells b B7), 0, 0)) rfl ?_
  refine x_copy (H := hput h b (Bd.cells b B8)) rfl rfl (h_lt (i := 4) hb (by decide)) (l2 4 (by decide)) (by decide) ((hq (Bd.cells b B7) rfl).at (i := 4) rfl) (hp_at (i := 4) hh rfl rfl) (Or.inl rfl) (by decide) (by rw [z0, z36]; exact hp_set (i := 4) hh rfl (by decide) (Bd.s_weights h8)) ?_
  refine x_ldan rfl rfl rfl (l2 0 (by decide)) ?_
  refine x_getf rfl rfl (l2 0 (by decide)) ((hq (Bd.cells b B8) rfl).at (i := 0) rfl) rfl ?_
  refine x_b 1 (S2 := (97, [some (.ref b), some (.ref b2)], [.int 0, .ref (b2 + 5)], hput h b (Bd.cells b B8), 0, 0)) rfl ?_
  refine x_ldan rfl rfl rfl (h_lt (i := 0) hb (by decide)) ?_
  refine x_getf rfl rfl (h_lt (i := 0) hb (by decide)) (hp_at (i := 0) hh rfl rfl) rfl ?_
  refine x_b 2 (S2 := (104, [some (.ref b), some (.ref b2)], [.int 36, .int 0, .ref (b + 5), .int 0, .ref (b2 + 5)], hput h b (Bd.cells b B8), 0, 0)) rfl ?_
  refine x_copy (H := hput h b (Bd.cells b B9)) rfl rfl (h_lt (i := 5) hb (by decide)) (l2 5 (by decide)) (by decide) ((hq (Bd.cells b B8) rfl).at (i := 5) rfl) (hp_at (i := 5) hh rfl rfl) (Or.inl rfl) (by decide) (by rw [z0, z36]; exact hp_set (i := 5) hh rfl (by decide) (Bd.s_parents h9)) ?_
  subst e9
  exact x_ret rfl rfl rfl
