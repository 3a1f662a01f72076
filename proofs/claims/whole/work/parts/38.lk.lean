/-! ===== THE LAW FROM ITS ENTRY ===== -/
def W0 (B : Bd) (M : Md) : Wd := ((0, 0), B, Bd.zero, Hs.zero, Tx.zero, Ol.zero, fun _ => none, fun _ => 0, M, fun _ => 0, [], 47, 338594)
theorem mk_W0 (B : Bd) (M : Md) : (ppHeap B ++ Md.cells 29 M) ++ [.inl (2, 1, .inr (.inl (fun _ => 0)))] = mk (W0 B M) := by
  unfold mk ppHeap
  simp only [List.append_assoc]
  rfl
set_option maxRecDepth 200000 in
theorem am_law_of (hl : ∀ (L : Nat) (xs : Nat → Int32), L ≤ 3072 → ∃ B0 M0 W, F_79 = some B0 ∧ F_132 Md.zero = some M0 ∧ F_299 L xs (W0 B0 M0) = some (1, W) ∧ W.kc ≤ 300000 ∧ W.kn ≤ 5000000) : am_LawOk := by
  intro L xs hL
  obtain ⟨B0, M0, W, h1, h2, h3, h4, h5⟩ := hl L xs hL
  have key : Ex 12 am_M299 (some (L, xs)) (0, [some (.ref am_SB), none, none, none, none, none, none], [], [], 0, 0) (.inl (some (.int 1)), mk W, W.kc, W.kn) := by
    refine x_newa (a := 0) rfl rfl rfl (by decide) (by decide) ?_
    refine x_b 1 (S2 := (4, [some (.ref am_SB), none, none, none, none, none, none], [.ref 0, .ref 0], [.inr (5, am_fd 5)], 1, 9)) rfl ?_
    refine x_cN (m_79 h1) rfl rfl rfl rfl (decide_eq_true (show 0 < am_SB by decide)) (by omega) ?_
    refine x_stan rfl rfl (show 1 < 7 by decide) (lt_ne (show 0 < am_SB by decide)) rfl ?_
    refine x_newa (a := 29) rfl rfl rfl (by decide) (by decide) ?_
    refine x_b 1 (S2 := (12, [some (.ref am_SB), some (.ref 0), none, none, none, none, none], [.ref 29, .ref 29], ppHeap B0 ++ [.inr (6, am_fd 6)], 30, 27489)) rfl ?_
    refine x_cN (m_132 h2 (h := ppHeap B0) (a := 29) rfl (by decide)) rfl rfl rfl rfl (decide_eq_true (show 29 < am_SB by decide)) (by omega) ?_
    refine x_stan rfl rfl (show 2 < 7 by decide) (lt_ne (show 29 < am_SB by decide)) rfl ?_
    refine x_b 1 (S2 := (17, [some (.ref am_SB), some (.ref 0), some (.ref 29), none, none, none, none], [.int 1], ppHeap B0 ++ Md.cells 29 M0, 46, 338593)) rfl ?_
    refine x_newai (a := 46) (m := 1) (cl := .inl (2, 1, .inr (.inl (fun _ => 0)))) (H := mk (W0 B0 M0)) rfl rfl rfl (by decide) (by decide) (by decide) (.inr (.inr ⟨rfl, rfl⟩)) (mk_W0 B0 M0) ?_
    refine x_stan rfl rfl (show 3 < 7 by decide) (lt_ne (show 46 < am_SB by decide)) rfl ?_
    exact f_299 (by decide) h3 rfl
  obtain ⟨f0, hf⟩ := key
  exact ⟨max f0 12, mk W, W.kc, W.kn, hf _ _ (Nat.le_max_left _ _) (Nat.le_max_left _ _), h4, h5⟩
