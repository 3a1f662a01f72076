/-! ===== THE LAW FROM ITS ENTRY ===== -/
def W0 (B : Bd) : Wd := ((0, 0), B, Bd.zero, Hs.zero, Tx.zero, Ol.zero, fun _ => none, fun _ => 0, [], 29, 27461)
theorem mk_W0 (B : Bd) : ppHeap B = mk (W0 B) := by
  unfold mk ppHeap
  show _ = PPt.cells 0 (W0 B).pp ++ (Bd.cells 1 B ++ (Bd.cells 7 Bd.zero ++ (Hs.cells 13 Hs.zero ++ (Tx.cells 15 Tx.zero ++ (Ol.cells 23 Ol.zero ++ (Qr.cells 6 (fun _ => none) ++ (Ar.cells 2048 (fun _ => 0) ++ [])))))))
  rw [List.append_nil]
  rfl
set_option maxRecDepth 200000 in
theorem am_law_of (hl : ∀ (L : Nat) (xs : Nat → Int32), L ≤ 260 → ∃ B0 W, F_79 = some B0 ∧ F_389 L xs (W0 B0) = some (1, W) ∧ W.kc ≤ 320000 ∧ W.kn ≤ 5400000) : am_LawOk := by
  intro L xs hL
  obtain ⟨B0, W, h1, h3, h4, h5⟩ := hl L xs hL
  have key : Ex 300 am_M389 (some (L, xs)) (0, [some (.ref am_SB), none, none, none, none, none, none, none, none, none, none], [], [], 0, 0) (.inl (some (.int 1)), mk W, W.kc, W.kn) := by
    refine x_newa (a := 0) rfl rfl rfl (by decide) (by decide) ?_
    refine x_b 1 (S2 := (4, [some (.ref am_SB), none, none, none, none, none, none, none, none, none, none], [.ref 0, .ref 0], [.inr (5, am_fd 5)], 1, 9)) rfl ?_
    refine x_cN (m_79 h1) rfl rfl rfl rfl (decide_eq_true (show 0 < am_SB by decide)) (by omega) ?_
    refine x_stan rfl rfl (show 1 < 11 by decide) (lt_ne (show 0 < am_SB by decide)) rfl ?_
    rw [mk_W0]
    exact f_389 (d := 300) (by decide) h3 rfl
  obtain ⟨f0, hf⟩ := key
  exact ⟨max f0 300, mk W, W.kc, W.kn, hf _ _ (Nat.le_max_left _ _) (Nat.le_max_left _ _), h4, h5⟩
