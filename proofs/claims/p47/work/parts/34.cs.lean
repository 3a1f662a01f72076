/-! ===== CONSTRUCTORS (by wip/whole/genc.py) ===== -/
theorem m_0 {scr : ASc}  {h : AHp} {a : Nat} (hl : h.length = a) (ha : a < 990000) : Rn scr 2 0 [.ref a] (h ++ [.inr (0, am_fd 0)]) (.inl none, h ++ Bd.cells a Bd.zero, 5, 120) := by
  have hsb : am_SB = 1000000 := rfl
  refine x_meth (M := am_M0) rfl (show 1 ≤ 1 by decide) ?_
  show Ex 1 am_M0 scr (0, [some (.ref a)], [], (h ++ [.inr (0, [.int 0, .long 0, .int 0, .int 0, .null, .null, .null, .null, .null])]), 0, 0) _
  refine x_ldan rfl rfl rfl (show a < am_SB by omega) ?_
  refine x_obj rfl rfl (show a < am_SB by omega) (by decide) ?_
  refine x_ldan rfl rfl rfl (show a < am_SB by omega) ?_
  refine x_b 1 (S2 := (7, [some (.ref a)], [.int 6, .ref a], (h ++ [.inr (0, [.int 0, .long 0, .int 0, .int 0, .null, .null, .null, .null, .null])]), 0, 0)) rfl ?_
  refine x_newai (a := a + 1) (m := 6) (cl := .inl (0, 6, .inl (fun _ => 0))) (H := (h ++ [.inr (0, [.int 0, .long 0, .int 0, .int 0, .null, .null, .null, .null, .null]), .inl (0, 6, .inl (fun _ => 0))])) rfl rfl (app_len hl) (by omega) (by decide) (by decide) (.inl ⟨rfl, rfl⟩) (by rw [List.append_assoc]; rfl) ?_
  refine x_putf (a := a + 0) (H := (h ++ [.inr (0, [.int 0, .long 0, .int 0, .int 0, .ref (a + 1), .null, .null, .null, .null]), .inl (0, 6, .inl (fun _ => 0))])) rfl rfl (show a < am_SB by omega) (app_at hl rfl) ⟨(show 4 < 9 by decide), rfl, rfl, by intro h9; cases h9; omega⟩ (app_set hl rfl) ?_
  refine x_ldan rfl rfl rfl (show a < am_SB by omega) ?_
  refine x_b 1 (S2 := (15, [some (.ref a)], [.int 36, .ref a], (h ++ [.inr (0, [.int 0, .long 0, .int 0, .int 0, .ref (a + 1), .null, .null, .null, .null]), .inl (0, 6, .inl (fun _ => 0))]), 1, 0 + 6)) rfl ?_
  refine x_newai (a := a + 2) (m := 36) (cl := .inl (0, 36, .inl (fun _ => 0))) (H := (h ++ [.inr (0, [.int 0, .long 0, .int 0, .int 0, .ref (a + 1), .null, .null, .null, .null]), .inl (0, 6, .inl (fun _ => 0)), .inl (0, 36, .inl (fun _ => 0))])) rfl rfl (app_len hl) (by omega) (by decide) (by decide) (.inl ⟨rfl, rfl⟩) (by rw [List.append_assoc]; rfl) ?_
  refine x_putf (a := a + 0) (H := (h ++ [.inr (0, [.int 0, .long 0, .int 0, .int 0, .ref (a + 1), .ref (a + 2), .null, .null, .null]), .inl (0, 6, .inl (fun _ => 0)), .inl (0, 36, .inl (fun _ => 0))])) rfl rfl (show a < am_SB by omega) (app_at hl rfl) ⟨(show 5 < 9 by decide), rfl, rfl, by intro h9; cases h9; omega⟩ (app_set hl rfl) ?_
  refine x_ldan rfl rfl rfl (show a < am_SB by omega) ?_
  refine x_b 1 (S2 := (23, [some (.ref a)], [.int 6, .ref a], (h ++ [.inr (0, [.int 0, .long 0, .int 0, .int 0, .ref (a + 1), .ref (a + 2), .null, .null, .null]), .inl (0, 6, .inl (fun _ => 0)), .inl (0, 36, .inl (fun _ => 0))]), 2, 0 + 6 + 36)) rfl ?_
  refine x_newai (a := a + 3) (m := 6) (cl := .inl (0, 6, .inl (fun _ => 0))) (H := (h ++ [.inr (0, [.int 0, .long 0, .int 0, .int 0, .ref (a + 1), .ref (a + 2), .null, .null, .null]), .inl (0, 6, .inl (fun _ => 0)), .inl (0, 36, .inl (fun _ => 0)), .inl (0, 6, .inl (fun _ => 0))])) rfl rfl (app_len hl) (by omega) (by decide) (by decide) (.inl ⟨rfl, rfl⟩) (by rw [List.append_assoc]; rfl) ?_
  refine x_putf (a := a + 0) (H := (h ++ [.inr (0, [.int 0, .long 0, .int 0, .int 0, .ref (a + 1), .ref (a + 2), .ref (a + 3), .null, .null]), .inl (0, 6, .inl (fun _ => 0)), .inl (0, 36, .inl (fun _ => 0)), .inl (0, 6, .inl (fun _ => 0))])) rfl rfl (show a < am_SB by omega) (app_at hl rfl) ⟨(show 6 < 9 by decide), rfl, rfl, by intro h9; cases h9; omega⟩ (app_set hl rfl) ?_
  refine x_ldan rfl rfl rfl (show a < am_SB by omega) ?_
  refine x_b 1 (S2 := (31, [some (.ref a)], [.int 36, .ref a], (h ++ [.inr (0, [.int 0, .long 0, .int 0, .int 0, .ref (a + 1), .ref (a + 2), .ref (a + 3), .null, .null]), .inl (0, 6, .inl (fun _ => 0)), .inl (0, 36, .inl (fun _ => 0)), .inl (0, 6, .inl (fun _ => 0))]), 3, 0 + 6 + 36 + 6)) rfl ?_
  refine x_newai (a := a + 4) (m := 36) (cl := .inl (0, 36, .inl (fun _ => 0))) (H := (h ++ [.inr (0, [.int 0, .long 0, .int 0, .int 0, .ref (a + 1), .ref (a + 2), .ref (a + 3), .null, .null]), .inl (0, 6, .inl (fun _ => 0)), .inl (0, 36, .inl (fun _ => 0)), .inl (0, 6, .inl (fun _ => 0)), .inl (0, 36, .inl (fun _ => 0))])) rfl rfl (app_len hl) (by omega) (by decide) (by decide) (.inl ⟨rfl, rfl⟩) (by rw [List.append_assoc]; rfl) ?_
  refine x_putf (a := a + 0) (H := (h ++ [.inr (0, [.int 0, .long 0, .int 0, .int 0, .ref (a + 1), .ref (a + 2), .ref (a + 3), .ref (a + 4), .null]), .inl (0, 6, .inl (fun _ => 0)), .inl (0, 36, .inl (fun _ => 0)), .inl (0, 6, .inl (fun _ => 0)), .inl (0, 36, .inl (fun _ => 0))])) rfl rfl (show a < am_SB by omega) (app_at hl rfl) ⟨(show 7 < 9 by decide), rfl, rfl, by intro h9; cases h9; omega⟩ (app_set hl rfl) ?_
  refine x_ldan rfl rfl rfl (show a < am_SB by omega) ?_
  refine x_b 1 (S2 := (39, [some (.ref a)], [.int 36, .ref a], (h ++ [.inr (0, [.int 0, .long 0, .int 0, .int 0, .ref (a + 1), .ref (a + 2), .ref (a + 3), .ref (a + 4), .null]), .inl (0, 6, .inl (fun _ => 0)), .inl (0, 36, .inl (fun _ => 0)), .inl (0, 6, .inl (fun _ => 0)), .inl (0, 36, .inl (fun _ => 0))]), 4, 0 + 6 + 36 + 6 + 36)) rfl ?_
  refine x_newai (a := a + 5) (m := 36) (cl := .inl (0, 36, .inl (fun _ => 0))) (H := (h ++ [.inr (0, [.int 0, .long 0, .int 0, .int 0, .ref (a + 1), .ref (a + 2), .ref (a + 3), .ref (a + 4), .null]), .inl (0, 6, .inl (fun _ => 0)), .inl (0, 36, .inl (fun _ => 0)), .inl (0, 6, .inl (fun _ => 0)), .inl (0, 36, .inl (fun _ => 0)), .inl (0, 36, .inl (fun _ => 0))])) rfl rfl (app_len hl) (by omega) (by decide) (by decide) (.inl ⟨rfl, rfl⟩) (by rw [List.append_assoc]; rfl) ?_
  refine x_putf (a := a + 0) (H := (h ++ [.inr (0, [.int 0, .long 0, .int 0, .int 0, .ref (a + 1), .ref (a + 2), .ref (a + 3), .ref (a + 4), .ref (a + 5)]), .inl (0, 6, .inl (fun _ => 0)), .inl (0, 36, .inl (fun _ => 0)), .inl (0, 6, .inl (fun _ => 0)), .inl (0, 36, .inl (fun _ => 0)), .inl (0, 36, .inl (fun _ => 0))])) rfl rfl (show a < am_SB by omega) (app_at hl rfl) ⟨(show 8 < 9 by decide), rfl, rfl, by intro h9; cases h9; omega⟩ (app_set hl rfl) ?_
  exact x_ret rfl rfl rfl
theorem m_36 {scr : ASc} {x : Int32} {h : AHp} {a : Nat} (hl : h.length = a) (ha : a < 990000) : Rn scr 2 36 [.ref a, .int x] (h ++ [.inr (1, am_fd 1)]) (.inl none, h ++ FP.cells a (FP.zero x), 5, 1142) := by
  have hsb : am_SB = 1000000 := rfl
  refine x_meth (M := am_M36) rfl (show 2 ≤ 2 by decide) ?_
  show Ex 1 am_M36 scr (0, [some (.ref a), some (.int x)], [], (h ++ [.inr (1, [.int 0, .int 0, .int 0, .long 0, .int 0, .int 0, .int 0, .null, .null, .null, .null, .null])]), 0, 0) _
  refine x_ldan rfl rfl rfl (show a < am_SB by omega) ?_
  refine x_obj rfl rfl (show a < am_SB by omega) (by decide) ?_
  refine x_ldan rfl rfl rfl (show a < am_SB by omega) ?_
  refine x_b 1 (S2 := (7, [some (.ref a), some (.int x)], [.int 100, .ref a], (h ++ [.inr (1, [.int 0, .int 0, .int 0, .long 0, .int 0, .int 0, .int 0, .null, .null, .null, .null, .null])]), 0, 0)) rfl ?_
  refine x_newai (a := a + 1) (m := 100) (cl := .inl (0, 100, .inl (fun _ => 0))) (H := (h ++ [.inr (1, [.int 0, .int 0, .int 0, .long 0, .int 0, .int 0, .int 0, .null, .null, .null, .null, .null]), .inl (0, 100, .inl (fun _ => 0))])) rfl rfl (app_len hl) (by omega) (by decide) (by decide) (.inl ⟨rfl, rfl⟩) (by rw [List.append_assoc]; rfl) ?_
  refine x_putf (a := a + 0) (H := (h ++ [.inr (1, [.int 0, .int 0, .int 0, .long 0, .int 0, .int 0, .int 0, .ref (a + 1), .null, .null, .null, .null]), .inl (0, 100, .inl (fun _ => 0))])) rfl rfl (show a < am_SB by omega) (app_at hl rfl) ⟨(show 7 < 12 by decide), rfl, rfl, by intro h9; cases h9; omega⟩ (app_set hl rfl) ?_
  refine x_ldan rfl rfl rfl (show a < am_SB by omega) ?_
  refine x_b 1 (S2 := (15, [some (.ref a), some (.int x)], [.int 6, .ref a], (h ++ [.inr (1, [.int 0, .int 0, .int 0, .long 0, .int 0, .int 0, .int 0, .ref (a + 1), .null, .null, .null, .null]), .inl (0, 100, .inl (fun _ => 0))]), 1, 0 + 100)) rfl ?_
  refine x_newai (a := a + 2) (m := 6) (cl := .inl (0, 6, .inl (fun _ => 0))) (H := (h ++ [.inr (1, [.int 0, .int 0, .int 0, .long 0, .int 0, .int 0, .int 0, .ref (a + 1), .null, .null, .null, .null]), .inl (0, 100, .inl (fun _ => 0)), .inl (0, 6, .inl (fun _ => 0))])) rfl rfl (app_len hl) (by omega) (by decide) (by decide) (.inl ⟨rfl, rfl⟩) (by rw [List.append_assoc]; rfl) ?_
  refine x_putf (a := a + 0) (H := (h ++ [.inr (1, [.int 0, .int 0, .int 0, .long 0, .int 0, .int 0, .int 0, .ref (a + 1), .ref (a + 2), .null, .null, .null]), .inl (0, 100, .inl (fun _ => 0)), .inl (0, 6, .inl (fun _ => 0))])) rfl rfl (show a < am_SB by omega) (app_at hl rfl) ⟨(show 8 < 12 by decide), rfl, rfl, by intro h9; cases h9; omega⟩ (app_set hl rfl) ?_
  refine x_ldan rfl rfl rfl (show a < am_SB by omega) ?_
  refine x_b 1 (S2 := (23, [some (.ref a), some (.int x)], [.int 6, .ref a], (h ++ [.inr (1, [.int 0, .int 0, .int 0, .long 0, .int 0, .int 0, .int 0, .ref (a + 1), .ref (a + 2), .null, .null, .null]), .inl (0, 100, .inl (fun _ => 0)), .inl (0, 6, .inl (fun _ => 0))]), 2, 0 + 100 + 6)) rfl ?_
  refine x_newai (a := a + 3) (m := 6) (cl := .inl (0, 6, .inl (fun _ => 0))) (H := (h ++ [.inr (1, [.int 0, .int 0, .int 0, .long 0, .int 0, .int 0, .int 0, .ref (a + 1), .ref (a + 2), .null, .null, .null]), .inl (0, 100, .inl (fun _ => 0)), .inl (0, 6, .inl (fun _ => 0)), .inl (0, 6, .inl (fun _ => 0))])) rfl rfl (app_len hl) (by omega) (by decide) (by decide) (.inl ⟨rfl, rfl⟩) (by rw [List.append_assoc]; rfl) ?_
  refine x_putf (a := a + 0) (H := (h ++ [.inr (1, [.int 0, .int 0, .int 0, .long 0, .int 0, .int 0, .int 0, .ref (a + 1), .ref (a + 2), .ref (a + 3), .null, .null]), .inl (0, 100, .inl (fun _ => 0)), .inl (0, 6, .inl (fun _ => 0)), .inl (0, 6, .inl (fun _ => 0))])) rfl rfl (show a < am_SB by omega) (app_at hl rfl) ⟨(show 9 < 12 by decide), rfl, rfl, by intro h9; cases h9; omega⟩ (app_set hl rfl) ?_
  refine x_ldan rfl rfl rfl (show a < am_SB by omega) ?_
  refine x_b 1 (S2 := (31, [some (.ref a), some (.int x)], [.int 6, .ref a], (h ++ [.inr (1, [.int 0, .int 0, .int 0, .long 0, .int 0, .int 0, .int 0, .ref (a + 1), .ref (a + 2), .ref (a + 3), .null, .null]), .inl (0, 100, .inl (fun _ => 0)), .inl (0, 6, .inl (fun _ => 0)), .inl (0, 6, .inl (fun _ => 0))]), 3, 0 + 100 + 6 + 6)) rfl ?_
  refine x_newai (a := a + 4) (m := 6) (cl := .inl (0, 6, .inl (fun _ => 0))) (H := (h ++ [.inr (1, [.int 0, .int 0, .int 0, .long 0, .int 0, .int 0, .int 0, .ref (a + 1), .ref (a + 2), .ref (a + 3), .null, .null]), .inl (0, 100, .inl (fun _ => 0)), .inl (0, 6, .inl (fun _ => 0)), .inl (0, 6, .inl (fun _ => 0)), .inl (0, 6, .inl (fun _ => 0))])) rfl rfl (app_len hl) (by omega) (by decide) (by decide) (.inl ⟨rfl, rfl⟩) (by rw [List.append_assoc]; rfl) ?_
  refine x_putf (a := a + 0) (H := (h ++ [.inr (1, [.int 0, .int 0, .int 0, .long 0, .int 0, .int 0, .int 0, .ref (a + 1), .ref (a + 2), .ref (a + 3), .ref (a + 4), .null]), .inl (0, 100, .inl (fun _ => 0)), .inl (0, 6, .inl (fun _ => 0)), .inl (0, 6, .inl (fun _ => 0)), .inl (0, 6, .inl (fun _ => 0))])) rfl rfl (show a < am_SB by omega) (app_at hl rfl) ⟨(show 10 < 12 by decide), rfl, rfl, by intro h9; cases h9; omega⟩ (app_set hl rfl) ?_
  refine x_ldan rfl rfl rfl (show a < am_SB by omega) ?_
  refine x_b 1 (S2 := (40, [some (.ref a), some (.int x)], [.int 1024, .ref a], (h ++ [.inr (1, [.int 0, .int 0, .int 0, .long 0, .int 0, .int 0, .int 0, .ref (a + 1), .ref (a + 2), .ref (a + 3), .ref (a + 4), .null]), .inl (0, 100, .inl (fun _ => 0)), .inl (0, 6, .inl (fun _ => 0)), .inl (0, 6, .inl (fun _ => 0)), .inl (0, 6, .inl (fun _ => 0))]), 4, 0 + 100 + 6 + 6 + 6)) rfl ?_
  refine x_newai (a := a + 5) (m := 1024) (cl := .inl (0, 1024, .inl (fun _ => 0))) (H := (h ++ [.inr (1, [.int 0, .int 0, .int 0, .long 0, .int 0, .int 0, .int 0, .ref (a + 1), .ref (a + 2), .ref (a + 3), .ref (a + 4), .null]), .inl (0, 100, .inl (fun _ => 0)), .inl (0, 6, .inl (fun _ => 0)), .inl (0, 6, .inl (fun _ => 0)), .inl (0, 6, .inl (fun _ => 0)), .inl (0, 1024, .inl (fun _ => 0))])) rfl rfl (app_len hl) (by omega) (by decide) (by decide) (.inl ⟨rfl, rfl⟩) (by rw [List.append_assoc]; rfl) ?_
  refine x_putf (a := a + 0) (H := (h ++ [.inr (1, [.int 0, .int 0, .int 0, .long 0, .int 0, .int 0, .int 0, .ref (a + 1), .ref (a + 2), .ref (a + 3), .ref (a + 4), .ref (a + 5)]), .inl (0, 100, .inl (fun _ => 0)), .inl (0, 6, .inl (fun _ => 0)), .inl (0, 6, .inl (fun _ => 0)), .inl (0, 6, .inl (fun _ => 0)), .inl (0, 1024, .inl (fun _ => 0))])) rfl rfl (show a < am_SB by omega) (app_at hl rfl) ⟨(show 11 < 12 by decide), rfl, rfl, by intro h9; cases h9; omega⟩ (app_set hl rfl) ?_
  refine x_ldan rfl rfl rfl (show a < am_SB by omega) ?_
  refine x_b 1 (S2 := (47, [some (.ref a), some (.int x)], [.int x, .ref a], (h ++ [.inr (1, [.int 0, .int 0, .int 0, .long 0, .int 0, .int 0, .int 0, .ref (a + 1), .ref (a + 2), .ref (a + 3), .ref (a + 4), .ref (a + 5)]), .inl (0, 100, .inl (fun _ => 0)), .inl (0, 6, .inl (fun _ => 0)), .inl (0, 6, .inl (fun _ => 0)), .inl (0, 6, .inl (fun _ => 0)), .inl (0, 1024, .inl (fun _ => 0))]), 5, 0 + 100 + 6 + 6 + 6 + 1024)) rfl ?_
  refine x_putf (a := a + 0) (H := (h ++ [.inr (1, [.int x, .int 0, .int 0, .long 0, .int 0, .int 0, .int 0, .ref (a + 1), .ref (a + 2), .ref (a + 3), .ref (a + 4), .ref (a + 5)]), .inl (0, 100, .inl (fun _ => 0)), .inl (0, 6, .inl (fun _ => 0)), .inl (0, 6, .inl (fun _ => 0)), .inl (0, 6, .inl (fun _ => 0)), .inl (0, 1024, .inl (fun _ => 0))])) rfl rfl (show a < am_SB by omega) (app_at hl rfl) ⟨(show 0 < 12 by decide), rfl, rfl, nofun⟩ (app_set hl rfl) ?_
  exact x_ret rfl rfl rfl
def Hs.zero : Hs := (fun _ => none, 0, 0)
def Ol.zero : Ol := (0, 0, 0, 0, 0, 0, fun _ => 0, fun _ => 0, fun _ => 0)
theorem m_48 {scr : ASc}  {h : AHp} {a : Nat} (hl : h.length = a) (ha : a < 990000) : Rn scr 2 48 [.ref a] (h ++ [.inr (2, am_fd 2)]) (.inl none, h ++ Hs.cells a Hs.zero, 1, 10) := by
  have hsb : am_SB = 1000000 := rfl
  refine x_meth (M := am_M48) rfl (show 1 ≤ 1 by decide) ?_
  show Ex 1 am_M48 scr (0, [some (.ref a)], [], (h ++ [.inr (2, [.null, .int 0, .int 0])]), 0, 0) _
  refine x_ldan rfl rfl rfl (show a < am_SB by omega) ?_
  refine x_obj rfl rfl (show a < am_SB by omega) (by decide) ?_
  refine x_ldan rfl rfl rfl (show a < am_SB by omega) ?_
  refine x_b 1 (S2 := (7, [some (.ref a)], [.int 10, .ref a], (h ++ [.inr (2, [.null, .int 0, .int 0])]), 0, 0)) rfl ?_
  refine x_newq (a := a + 1) (m := 10) (H := (h ++ [.inr (2, [.null, .int 0, .int 0]), .inl (3, 10, .inr (.inr (.inr (.inr (fun _ => none)))))])) rfl rfl (app_len hl) (by omega) (by decide) (by decide) (by decide) (by rw [List.append_assoc]; rfl) ?_
  refine x_putf (a := a + 0) (H := (h ++ [.inr (2, [.ref (a + 1), .int 0, .int 0]), .inl (3, 10, .inr (.inr (.inr (.inr (fun _ => none)))))])) rfl rfl (show a < am_SB by omega) (app_at hl rfl) ⟨(show 0 < 3 by decide), rfl, rfl, by intro h9; cases h9; omega⟩ (app_set hl rfl) ?_
  exact x_ret rfl rfl rfl
theorem m_52 {scr : ASc}  {h : AHp} {a : Nat} (hl : h.length = a) (ha : a < 990000) : Rn scr 2 52 [.ref a] (h ++ [.inr (3, am_fd 3)]) (.inl none, h ++ Ol.cells a Ol.zero, 3, 24582) := by
  have hsb : am_SB = 1000000 := rfl
  refine x_meth (M := am_M52) rfl (show 1 ≤ 1 by decide) ?_
  show Ex 1 am_M52 scr (0, [some (.ref a)], [], (h ++ [.inr (3, [.int 0, .int 0, .long 0, .int 0, .int 0, .int 0, .null, .null, .null])]), 0, 0) _
  refine x_ldan rfl rfl rfl (show a < am_SB by omega) ?_
  refine x_obj rfl rfl (show a < am_SB by omega) (by decide) ?_
  refine x_ldan rfl rfl rfl (show a < am_SB by omega) ?_
  refine x_b 1 (S2 := (7, [some (.ref a)], [.int 6, .ref a], (h ++ [.inr (3, [.int 0, .int 0, .long 0, .int 0, .int 0, .int 0, .null, .null, .null])]), 0, 0)) rfl ?_
  refine x_newai (a := a + 1) (m := 6) (cl := .inl (0, 6, .inl (fun _ => 0))) (H := (h ++ [.inr (3, [.int 0, .int 0, .long 0, .int 0, .int 0, .int 0, .null, .null, .null]), .inl (0, 6, .inl (fun _ => 0))])) rfl rfl (app_len hl) (by omega) (by decide) (by decide) (.inl ⟨rfl, rfl⟩) (by rw [List.append_assoc]; rfl) ?_
  refine x_putf (a := a + 0) (H := (h ++ [.inr (3, [.int 0, .int 0, .long 0, .int 0, .int 0, .int 0, .ref (a + 1), .null, .null]), .inl (0, 6, .inl (fun _ => 0))])) rfl rfl (show a < am_SB by omega) (app_at hl rfl) ⟨(show 6 < 9 by decide), rfl, rfl, by intro h9; cases h9; omega⟩ (app_set hl rfl) ?_
  refine x_ldan rfl rfl rfl (show a < am_SB by omega) ?_
  refine x_b 1 (S2 := (16, [some (.ref a)], [.int 8192, .ref a], (h ++ [.inr (3, [.int 0, .int 0, .long 0, .int 0, .int 0, .int 0, .ref (a + 1), .null, .null]), .inl (0, 6, .inl (fun _ => 0))]), 1, 0 + 6)) rfl ?_
  refine x_newai (a := a + 2) (m := 8192) (cl := .inl (0, 8192, .inl (fun _ => 0))) (H := (h ++ [.inr (3, [.int 0, .int 0, .long 0, .int 0, .int 0, .int 0, .ref (a + 1), .null, .null]), .inl (0, 6, .inl (fun _ => 0)), .inl (0, 8192, .inl (fun _ => 0))])) rfl rfl (app_len hl) (by omega) (by decide) (by decide) (.inl ⟨rfl, rfl⟩) (by rw [List.append_assoc]; rfl) ?_
  refine x_putf (a := a + 0) (H := (h ++ [.inr (3, [.int 0, .int 0, .long 0, .int 0, .int 0, .int 0, .ref (a + 1), .ref (a + 2), .null]), .inl (0, 6, .inl (fun _ => 0)), .inl (0, 8192, .inl (fun _ => 0))])) rfl rfl (show a < am_SB by omega) (app_at hl rfl) ⟨(show 7 < 9 by decide), rfl, rfl, by intro h9; cases h9; omega⟩ (app_set hl rfl) ?_
  refine x_ldan rfl rfl rfl (show a < am_SB by omega) ?_
  refine x_b 1 (S2 := (25, [some (.ref a)], [.int 16384, .ref a], (h ++ [.inr (3, [.int 0, .int 0, .long 0, .int 0, .int 0, .int 0, .ref (a + 1), .ref (a + 2), .null]), .inl (0, 6, .inl (fun _ => 0)), .inl (0, 8192, .inl (fun _ => 0))]), 2, 0 + 6 + 8192)) rfl ?_
  refine x_newai (a := a + 3) (m := 16384) (cl := .inl (0, 16384, .inl (fun _ => 0))) (H := (h ++ [.inr (3, [.int 0, .int 0, .long 0, .int 0, .int 0, .int 0, .ref (a + 1), .ref (a + 2), .null]), .inl (0, 6, .inl (fun _ => 0)), .inl (0, 8192, .inl (fun _ => 0)), .inl (0, 16384, .inl (fun _ => 0))])) rfl rfl (app_len hl) (by omega) (by decide) (by decide) (.inl ⟨rfl, rfl⟩) (by rw [List.append_assoc]; rfl) ?_
  refine x_putf (a := a + 0) (H := (h ++ [.inr (3, [.int 0, .int 0, .long 0, .int 0, .int 0, .int 0, .ref (a + 1), .ref (a + 2), .ref (a + 3)]), .inl (0, 6, .inl (fun _ => 0)), .inl (0, 8192, .inl (fun _ => 0)), .inl (0, 16384, .inl (fun _ => 0))])) rfl rfl (show a < am_SB by omega) (app_at hl rfl) ⟨(show 8 < 9 by decide), rfl, rfl, by intro h9; cases h9; omega⟩ (app_set hl rfl) ?_
  exact x_ret rfl rfl rfl
def Tx.zero : Tx := (fun _ => 0, 0, Bd.zero, 0, 0, 0, 0)
/-- a call that returns and makes something -/
theorem x_cN {d : Nat} {M : AMe} {scr : ASc} {res : ARe} {pc : Nat} {ls : ALs} {st : List Value} {h : AHp} {c n : Nat} {d2 p mi np dk dn : Nat} {i : Instr} {Y : AMe} {as rest : List Value} {v : Option Value} {h2 : AHp} (hr : Rn scr d2 mi as h (.inl v, h2, dk, dn)) (hE : am_find M.2.2.2.2.2.2 pc = some (p, i, mi, np)) (hk : (am_kind i mi, am_nx i) = (2, 3)) (ha : am_args np st = some (as, rest)) (hp : am_prog mi = some Y) (hrv : am_recv i mi Y.1.cls as h = true) (hd : d2 ≤ d)
    (k : Ex d M scr (pc + 3, ls, v.toList ++ rest, h2, c + dk, n + dn) res) : Ex d M scr (pc, ls, st, h, c, n) res := by
  have h1 : am_kind i mi = 2 := congrArg Prod.fst hk
  have h2 : am_nx i = 3 := congrArg Prod.snd hk
  refine x_call (E := (p, i, mi, np)) hr hd hE h1 ha hp hrv ?_
  show Ex d M scr (pc + am_nx i, _) res
  rw [h2]
  exact k
/-- a new object, its place known -/
theorem x_newa {d : Nat} {M : AMe} {scr : ASc} {res : ARe} {pc r1 r2 p q a : Nat} {ls : ALs} {st : List Value} {h : AHp} {c n : Nat} (hE : am_find M.2.2.2.2.2.2 pc = some (p, .new q, r1, r2)) (hp : p = pc) (hl : h.length = a) (ha : a < am_SB) (hr : r1 < 12) (k : Ex d M scr (pc + 3, ls, .ref a :: st, h ++ [.inr (r1, am_fd r1)], c + 1, n + (am_fd r1).length) res) : Ex d M scr (pc, ls, st, h, c, n) res := by
  subst hl
  exact x_new hE hp ha rfl hr k
theorem m_62 {scr : ASc} {h : AHp} {a : Nat} (hl : h.length = a) (ha : a < 900000) : Rn scr 3 62 [.ref a] (h ++ [.inr (4, am_fd 4)]) (.inl none, h ++ Tx.cells a Tx.zero, 7, 529) := by
  have hsb : am_SB = 1000000 := rfl
  refine x_meth (M := am_M62) rfl (show 1 ≤ 1 by decide) ?_
  show Ex 2 am_M62 scr (0, [some (.ref a)], [], (h ++ [.inr (4, [.null, .int 0, .null, .int 0, .int 0, .int 0, .int 0])]), 0, 0) _
  refine x_ldan rfl rfl rfl (show a < am_SB by omega) ?_
  refine x_obj rfl rfl (show a < am_SB by omega) (by decide) ?_
  refine x_ldan rfl rfl rfl (show a < am_SB by omega) ?_
  refine x_b 1 (S2 := (8, [some (.ref a)], [.int 400, .ref a], (h ++ [.inr (4, [.null, .int 0, .null, .int 0, .int 0, .int 0, .int 0])]), 0, 0)) rfl ?_
  refine x_newai (a := a + 1) (m := 400) (cl := .inl (0, 400, .inl (fun _ => 0))) (H := (h ++ [.inr (4, [.null, .int 0, .null, .int 0, .int 0, .int 0, .int 0]), .inl (0, 400, .inl (fun _ => 0))])) rfl rfl (app_len hl) (by omega) (by decide) (by decide) (.inl ⟨rfl, rfl⟩) (by rw [List.append_assoc]; rfl) ?_
  refine x_putf (a := a + 0) (H := (h ++ [.inr (4, [.ref (a + 1), .int 0, .null, .int 0, .int 0, .int 0, .int 0]), .inl (0, 400, .inl (fun _ => 0))])) rfl rfl (show a < am_SB by omega) (app_at hl rfl) ⟨(show 0 < 7 by decide), rfl, rfl, by intro h9; cases h9; omega⟩ (app_set hl rfl) ?_
  refine x_ldan rfl rfl rfl (show a < am_SB by omega) ?_
  refine x_newa (a := a + 2) rfl rfl (app_len hl) (by omega) (by decide) ?_
  refine x_b 1 (S2 := (18, [some (.ref a)], [.ref (a + 2), .ref (a + 2), .ref a], (h ++ [.inr (4, [.ref (a + 1), .int 0, .null, .int 0, .int 0, .int 0, .int 0]), .inl (0, 400, .inl (fun _ => 0))]) ++ [.inr (0, am_fd 0)], 2, 409)) rfl ?_
  refine x_cN (m_0 (app_len hl) (show a + 2 < 990000 by omega)) rfl rfl rfl rfl (decide_eq_true (show a + 2 < am_SB by omega)) (by omega) ?_
  rw [List.append_assoc]
  refine x_putf (a := a + 0) (H := h ++ Tx.cells a Tx.zero) rfl rfl (show a < am_SB by omega) (app_at hl rfl) ⟨(show 2 < 7 by decide), rfl, rfl, by intro h9; cases h9; omega⟩ (app_set hl rfl) ?_
  exact x_ret rfl rfl rfl
section NW
variable {d : Nat} {M : AMe} {scr : ASc} {res : ARe} {pc r1 r2 a b i j : Nat} {ls ls2 : ALs} {st : List Value} {h H : AHp} {W W2 : Wd} {c n : Nat} {x y : Int32}
theorem mk_pushB (W : Wd) : mk W.pushB = mk W ++ Bd.cells W.top Bd.zero := by
  rw [mk_dyn, mk_dyn W]
  show fixd W ++ dynCells 29 (W.dyn ++ [.inl Bd.zero]) = _
  rw [dynCells_app, List.append_assoc]
  congr 1
theorem mk_pushF (W : Wd) (t : Int32) : mk (W.pushF t) = mk W ++ FP.cells W.top (FP.zero t) := by
  rw [mk_dyn, mk_dyn W]
  show fixd W ++ dynCells 29 (W.dyn ++ [.inr (.inl (FP.zero t))]) = _
  rw [dynCells_app, List.append_assoc]
  congr 1
theorem x_newB {p q : Nat} (ht : W.top < 900000) (hb : some W.pushB = some W2) (hE : am_find M.2.2.2.2.2.2 pc = some (p, .invokespecial q, 0, 1)) (ha : am_args 1 (.ref W.top :: .ref W.top :: st) = some ([.ref W.top], .ref W.top :: st)) (hd : 2 ≤ d) (k : Ex d M scr (pc + 3, ls, .ref W.top :: st, mk W2, W2.kc, W2.kn) res) : Ex d M scr (pc, ls, .ref W.top :: .ref W.top :: st, mk W ++ [.inr (0, am_fd 0)], W.kc + 1, W.kn + (am_fd 0).length) res := by
  cases hb
  have h1 := ht
  refine x_cN (m_0 (mk_len W) (show W.top < 990000 by omega)) hE rfl ha rfl (decide_eq_true (show W.top < am_SB by unfold am_SB; omega)) hd ?_
  rw [← mk_pushB]
  exact k
theorem x_newF {p q : Nat} (ht : W.top < 900000) (hb : some (W.pushF x) = some W2) (hE : am_find M.2.2.2.2.2.2 pc = some (p, .invokespecial q, 36, 2)) (ha : am_args 2 (.int x :: .ref W.top :: .ref W.top :: st) = some ([.ref W.top, .int x], .ref W.top :: st)) (hd : 2 ≤ d) (k : Ex d M scr (pc + 3, ls, .ref W.top :: st, mk W2, W2.kc, W2.kn) res) : Ex d M scr (pc, ls, .int x :: .ref W.top :: .ref W.top :: st, mk W ++ [.inr (1, am_fd 1)], W.kc + 1, W.kn + (am_fd 1).length) res := by
  cases hb
  have h1 := ht
  refine x_cN (m_36 (mk_len W) (show W.top < 990000 by omega)) hE rfl ha rfl (decide_eq_true (show W.top < am_SB by unfold am_SB; omega)) hd ?_
  rw [← mk_pushF]
  exact k
end NW
def ppHeap (B : Bd) : AHp := ([.inr (5, [.ref 1, .ref 7, .int 0, .ref 13, .ref 15, .ref 23, .ref 27, .ref 28, .int 0])] : AHp) ++ (Bd.cells 1 B ++ (Bd.cells 7 Bd.zero ++ (Hs.cells 13 Hs.zero ++ (Tx.cells 15 Tx.zero ++ (Ol.cells 23 Ol.zero ++ (Qr.cells 6 (fun _ => none) ++ Ar.cells 2048 (fun _ => 0)))))))
theorem wc_pp {scr : ASc} {B B2 : Bd} {D mi : Nat} {as : List Value} {r : Option Value ⊕ Nat} (hr : ∀ H : AHp, 1 + 6 ≤ am_SB → 1 + 6 ≤ H.length → Rn scr D mi as (hput H 1 (Bd.cells 1 B)) (r, hput H 1 (Bd.cells 1 B2), 0, 0)) : Rn scr D mi as (ppHeap B) (r, ppHeap B2, 0, 0) := hr (ppHeap B) (by decide) (show 7 ≤ 29 by decide)
def F_79 : Option Bd :=
  (F_1 Bd.zero 3).bind fun B1 =>
  (F_4 B1 0 1).bind fun B2 =>
  (F_4 B2 1 2).bind fun B3 =>
  (F_13 B3).bind fun B4 =>
  (some (B4.w_pile (upd B4.pile 0 4))).bind fun B5 => some B5
set_option maxRecDepth 4000 in
theorem m_79 {scr : ASc} {o : Bd} (hr : F_79 = some o) : Rn scr 6 79 [.ref 0] [.inr (5, am_fd 5)] (.inl none, ppHeap o, 28, 27452) := by
  delta F_79 at hr
  refine x_meth (M := am_M79) rfl (show 1 ≤ 1 by decide) ?_
  show Ex 5 am_M79 scr (0, [some (.ref 0)], [], ([.inr (5, [.null, .null, .int 0, .null, .null, .null, .null, .null, .int 0])] : AHp), 0, 0) _
  refine x_ldan rfl rfl rfl (show 0 < am_SB by decide) ?_
  refine x_obj rfl rfl (show 0 < am_SB by decide) (by decide) ?_
  refine x_ldan rfl rfl rfl (show 0 < am_SB by decide) ?_
  refine x_newa (a := 1) rfl rfl rfl (by decide) (by decide) ?_
  refine x_b 1 (S2 := (9, [some (.ref 0)], [.ref 1, .ref 1, .ref 0], ([.inr (5, [.null, .null, .int 0, .null, .null, .null, .null, .null, .int 0])] : AHp) ++ [.inr (0, am_fd 0)], 1, 9)) rfl ?_
  refine x_cN (m_0 (a := 1) rfl (by decide)) rfl rfl rfl rfl (decide_eq_true (show 1 < am_SB by decide)) (by omega) ?_
  refine x_putf (H := (([.inr (5, [.ref 1, .null, .int 0, .null, .null, .null, .null, .null, .int 0])] : AHp) ++ Bd.cells 1 Bd.zero)) rfl rfl (show 0 < am_SB by decide) rfl ⟨(show 0 < 9 by decide), rfl, rfl, by intro h9; cases h9⟩ rfl ?_
  refine x_ldan rfl rfl rfl (show 0 < am_SB by decide) ?_
  refine x_newa (a := 7) rfl rfl rfl (by decide) (by decide) ?_
  refine x_b 1 (S2 := (20, [some (.ref 0)], [.ref 7, .ref 7, .ref 0], (([.inr (5, [.ref 1, .null, .int 0, .null, .null, .null, .null, .null, .int 0])] : AHp) ++ Bd.cells 1 Bd.zero) ++ [.inr (0, am_fd 0)], 7, 138)) rfl ?_
  refine x_cN (m_0 (a := 7) rfl (by decide)) rfl rfl rfl rfl (decide_eq_true (show 7 < am_SB by decide)) (by omega) ?_
  refine x_putf (H := ((([.inr (5, [.ref 1, .ref 7, .int 0, .null, .null, .null, .null, .null, .int 0])] : AHp) ++ Bd.cells 1 Bd.zero) ++ Bd.cells 7 Bd.zero)) rfl rfl (show 0 < am_SB by decide) rfl ⟨(show 1 < 9 by decide), rfl, rfl, by intro h9; cases h9⟩ rfl ?_
  refine x_ldan rfl rfl rfl (show 0 < am_SB by decide) ?_
  refine x_newa (a := 13) rfl rfl rfl (by decide) (by decide) ?_
  refine x_b 1 (S2 := (31, [some (.ref 0)], [.ref 13, .ref 13, .ref 0], ((([.inr (5, [.ref 1, .ref 7, .int 0, .null, .null, .null, .null, .null, .int 0])] : AHp) ++ Bd.cells 1 Bd.zero) ++ Bd.cells 7 Bd.zero) ++ [.inr (2, am_fd 2)], 13, 261)) rfl ?_
  refine x_cN (m_48 (a := 13) rfl (by decide)) rfl rfl rfl rfl (decide_eq_true (show 13 < am_SB by decide)) (by omega) ?_
  refine x_putf (H := (((([.inr (5, [.ref 1, .ref 7, .int 0, .ref 13, .null, .null, .null, .null, .int 0])] : AHp) ++ Bd.cells 1 Bd.zero) ++ Bd.cells 7 Bd.zero) ++ Hs.cells 13 Hs.zero)) rfl rfl (show 0 < am_SB by decide) rfl ⟨(show 3 < 9 by decide), rfl, rfl, by intro h9; cases h9⟩ rfl ?_
  refine x_ldan rfl rfl rfl (show 0 < am_SB by decide) ?_
  refine x_newa (a := 15) rfl rfl rfl (by decide) (by decide) ?_
  refine x_b 1 (S2 := (42, [some (.ref 0)], [.ref 15, .ref 15, .ref 0], (((([.inr (5, [.ref 1, .ref 7, .int 0, .ref 13, .null, .null, .null, .null, .int 0])] : AHp) ++ Bd.cells 1 Bd.zero) ++ Bd.cells 7 Bd.zero) ++ Hs.cells 13 Hs.zero) ++ [.inr (4, am_fd 4)], 15, 278)) rfl ?_
  refine x_cN (m_62 (a := 15) rfl (by decide)) rfl rfl rfl rfl (decide_eq_true (show 15 < am_SB by decide)) (by omega) ?_
  refine x_putf (H := ((((([.inr (5, [.ref 1, .ref 7, .int 0, .ref 13, .ref 15, .null, .null, .null, .int 0])] : AHp) ++ Bd.cells 1 Bd.zero) ++ Bd.cells 7 Bd.zero) ++ Hs.cells 13 Hs.zero) ++ Tx.cells 15 Tx.zero)) rfl rfl (show 0 < am_SB by decide) rfl ⟨(show 4 < 9 by decide), rfl, rfl, by intro h9; cases h9⟩ rfl ?_
  refine x_ldan rfl rfl rfl (show 0 < am_SB by decide) ?_
  refine x_newa (a := 23) rfl rfl rfl (by decide) (by decide) ?_
  refine x_b 1 (S2 := (53, [some (.ref 0)], [.ref 23, .ref 23, .ref 0], ((((([.inr (5, [.ref 1, .ref 7, .int 0, .ref 13, .ref 15, .null, .null, .null, .int 0])] : AHp) ++ Bd.cells 1 Bd.zero) ++ Bd.cells 7 Bd.zero) ++ Hs.cells 13 Hs.zero) ++ Tx.cells 15 Tx.zero) ++ [.inr (3, am_fd 3)], 23, 816)) rfl ?_
  refine x_cN (m_52 (a := 23) rfl (by decide)) rfl rfl rfl rfl (decide_eq_true (show 23 < am_SB by decide)) (by omega) ?_
  refine x_putf (H := (((((([.inr (5, [.ref 1, .ref 7, .int 0, .ref 13, .ref 15, .ref 23, .null, .null, .int 0])] : AHp) ++ Bd.cells 1 Bd.zero) ++ Bd.cells 7 Bd.zero) ++ Hs.cells 13 Hs.zero) ++ Tx.cells 15 Tx.zero) ++ Ol.cells 23 Ol.zero)) rfl rfl (show 0 < am_SB by decide) rfl ⟨(show 5 < 9 by decide), rfl, rfl, by intro h9; cases h9⟩ rfl ?_
  refine x_ldan rfl rfl rfl (show 0 < am_SB by decide) ?_
  refine x_b 1 (S2 := (62, [some (.ref 0)], [.int 6, .ref 0], (((((([.inr (5, [.ref 1, .ref 7, .int 0, .ref 13, .ref 15, .ref 23, .null, .null, .int 0])] : AHp) ++ Bd.cells 1 Bd.zero) ++ Bd.cells 7 Bd.zero) ++ Hs.cells 13 Hs.zero) ++ Tx.cells 15 Tx.zero) ++ Ol.cells 23 Ol.zero), 26, 25398)) rfl ?_
  refine x_newq (a := 27) (m := 6) (H := ((((((([.inr (5, [.ref 1, .ref 7, .int 0, .ref 13, .ref 15, .ref 23, .null, .null, .int 0])] : AHp) ++ Bd.cells 1 Bd.zero) ++ Bd.cells 7 Bd.zero) ++ Hs.cells 13 Hs.zero) ++ Tx.cells 15 Tx.zero) ++ Ol.cells 23 Ol.zero) ++ Qr.cells 6 (fun _ => none))) rfl rfl rfl (by decide) (by decide) (by decide) (by decide) rfl ?_
  refine x_putf (H := ((((((([.inr (5, [.ref 1, .ref 7, .int 0, .ref 13, .ref 15, .ref 23, .ref 27, .null, .int 0])] : AHp) ++ Bd.cells 1 Bd.zero) ++ Bd.cells 7 Bd.zero) ++ Hs.cells 13 Hs.zero) ++ Tx.cells 15 Tx.zero) ++ Ol.cells 23 Ol.zero) ++ Qr.cells 6 (fun _ => none))) rfl rfl (show 0 < am_SB by decide) rfl ⟨(show 6 < 9 by decide), rfl, rfl, by intro h9; cases h9⟩ rfl ?_
  refine x_ldan rfl rfl rfl (show 0 < am_SB by decide) ?_
  refine x_b 1 (S2 := (72, [some (.ref 0)], [.int 2048, .ref 0], ((((((([.inr (5, [.ref 1, .ref 7, .int 0, .ref 13, .ref 15, .ref 23, .ref 27, .null, .int 0])] : AHp) ++ Bd.cells 1 Bd.zero) ++ Bd.cells 7 Bd.zero) ++ Hs.cells 13 Hs.zero) ++ Tx.cells 15 Tx.zero) ++ Ol.cells 23 Ol.zero) ++ Qr.cells 6 (fun _ => none)), 27, 25404)) rfl ?_
  refine x_newai (a := 28) (m := 2048) (cl := .inl (0, 2048, .inl (fun _ => 0))) (H := (((((((([.inr (5, [.ref 1, .ref 7, .int 0, .ref 13, .ref 15, .ref 23, .ref 27, .null, .int 0])] : AHp) ++ Bd.cells 1 Bd.zero) ++ Bd.cells 7 Bd.zero) ++ Hs.cells 13 Hs.zero) ++ Tx.cells 15 Tx.zero) ++ Ol.cells 23 Ol.zero) ++ Qr.cells 6 (fun _ => none)) ++ Ar.cells 2048 (fun _ => 0))) rfl rfl rfl (by decide) (by decide) (by decide) (.inl ⟨rfl, rfl⟩) rfl ?_
  refine x_putf (H := (((((((([.inr (5, [.ref 1, .ref 7, .int 0, .ref 13, .ref 15, .ref 23, .ref 27, .ref 28, .int 0])] : AHp) ++ Bd.cells 1 Bd.zero) ++ Bd.cells 7 Bd.zero) ++ Hs.cells 13 Hs.zero) ++ Tx.cells 15 Tx.zero) ++ Ol.cells 23 Ol.zero) ++ Qr.cells 6 (fun _ => none)) ++ Ar.cells 2048 (fun _ => 0))) rfl rfl (show 0 < am_SB by decide) rfl ⟨(show 7 < 9 by decide), rfl, rfl, by intro h9; cases h9⟩ rfl ?_
  show Ex 5 am_M79 scr (77, [some (.ref 0)], [], ppHeap Bd.zero, 28, 27452) _
  obtain ⟨B1, h1, hr⟩ := bd_some hr
  refine x_ldan rfl rfl rfl (show 0 < am_SB by decide) ?_
  refine x_getf rfl rfl (show 0 < am_SB by decide) rfl rfl ?_
  refine x_b 1 (S2 := (82, [some (.ref 0)], [.int 3, .ref 1], ppHeap Bd.zero, 28, 27452)) rfl ?_
  refine x_c0 (wc_pp (fun H hb hh => m_1 hb hh h1)) rfl rfl rfl rfl rfl (by omega) ?_
  obtain ⟨B2, h2, hr⟩ := bd_some hr
  refine x_ldan rfl rfl rfl (show 0 < am_SB by decide) ?_
  refine x_getf rfl rfl (show 0 < am_SB by decide) rfl rfl ?_
  refine x_b 2 (S2 := (91, [some (.ref 0)], [.int 1, .int 0, .ref 1], ppHeap B1, 28, 27452)) rfl ?_
  refine x_c0 (wc_pp (fun H hb hh => m_4 hb hh h2)) rfl rfl rfl rfl rfl (by omega) ?_
  obtain ⟨B3, h3, hr⟩ := bd_some hr
  refine x_ldan rfl rfl rfl (show 0 < am_SB by decide) ?_
  refine x_getf rfl rfl (show 0 < am_SB by decide) rfl rfl ?_
  refine x_b 2 (S2 := (100, [some (.ref 0)], [.int 2, .int 1, .ref 1], ppHeap B2, 28, 27452)) rfl ?_
  refine x_c0 (wc_pp (fun H hb hh => m_4 hb hh h3)) rfl rfl rfl rfl rfl (by omega) ?_
  obtain ⟨B4, h4, hr⟩ := bd_some hr
  refine x_ldan rfl rfl rfl (show 0 < am_SB by decide) ?_
  refine x_getf rfl rfl (show 0 < am_SB by decide) rfl rfl ?_
  refine x_c0 (wc_pp (fun H hb hh => m_13 hb hh h4)) rfl rfl rfl rfl rfl (by omega) ?_
  obtain ⟨B5, h5, hr⟩ := bd_some hr
  refine x_ldan rfl rfl rfl (show 0 < am_SB by decide) ?_
  refine x_getf rfl rfl (show 0 < am_SB by decide) rfl rfl ?_
  refine x_getf rfl rfl (show 1 < am_SB by decide) rfl rfl ?_
  refine x_b 2 (S2 := (119, [some (.ref 0)], [.int 4, .int 0, .ref 2], ppHeap B4, 28, 27452)) rfl ?_
  refine x_iast (i := 0) (H := ppHeap B5) rfl rfl (show 2 < am_SB by decide) rfl rfl (by cases h5; rfl) ?_
  cases hr
  exact x_ret rfl rfl rfl
