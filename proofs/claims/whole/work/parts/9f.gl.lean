/-! ===== THE LAW'S TURNS ===== -/
section GL
theorem ixl {L i c : Nat} (h : i + c < L) (hl : L ≤ 3072) : ix (nI i + nI c) L = some (i + c) := by rw [nI_add, ixn h (by omega)]
theorem tailA {X : Type} {B : Wd} {o : Md} {v u : Int32} {nx fl : Wd → Option X} (e3 : o.thrown = v) (e4 : v = 0 → B.out 0 = u.toInt64) :
    ((some (B.w_md o)).bind fun Z => (F_133 Z.md).bind fun t => if t = v then (if ¬ v = 0 then nx Z else (ix 0 1).bind fun i => if (lg_cmp (Z.out i) u.toInt64) = 0 then nx Z else fl Z) else fl Z) = nx (B.w_md o) := by
  show (if o.thrown = v then (if ¬ v = 0 then nx (B.w_md o) else (ix 0 1).bind fun i => if (lg_cmp ((B.w_md o).out i) u.toInt64) = 0 then nx (B.w_md o) else fl (B.w_md o)) else fl (B.w_md o)) = _
  rw [if_pos e3]
  by_cases hv : v = 0
  · rw [if_neg (fun z => z hv), show ix 0 1 = some 0 from rfl, Option.bind_some, show (B.w_md o).out 0 = B.out 0 from rfl, if_pos (l_eq.2 (e4 hv))]
  · rw [if_pos hv]
theorem tailB {X : Type} {B : Wd} {o : Md} {v u : Int32} {nx fl : Wd → Option X} {g : Wd → Int64 → Int64 → Option X} (hg : ∀ Z t, g Z t t = nx Z) (hu : u = 0 ∨ u = 1) (e3 : o.thrown = v) (e4 : v = 0 → B.out 0 = u.toInt64) :
    ((some (B.w_md o)).bind fun Z => (F_133 Z.md).bind fun t => if t = v then (if ¬ v = 0 then nx Z else (ix 0 1).bind fun i => if u = 0 then g Z 0 (Z.out i) else g Z 1 (Z.out i)) else fl Z) = nx (B.w_md o) := by
  show (if o.thrown = v then (if ¬ v = 0 then nx (B.w_md o) else (ix 0 1).bind fun i => if u = 0 then g (B.w_md o) 0 ((B.w_md o).out i) else g (B.w_md o) 1 ((B.w_md o).out i)) else fl (B.w_md o)) = _
  rw [if_pos e3]
  by_cases hv : v = 0
  · rw [if_neg (fun z => z hv), show ix 0 1 = some 0 from rfl, Option.bind_some, show (B.w_md o).out 0 = B.out 0 from rfl, e4 hv]
    rcases hu with rfl | rfl
    · rw [if_pos rfl]
      exact hg _ 0
    · rw [if_neg (by decide)]
      exact hg _ 1
  · rw [if_pos hv]
variable {k L i : Nat} {xs : Nat → Int32} {W : Wd}
theorem gl0 (h : Sim k W) (hk : k < 90000) (hL : i + 6 ≤ L) (hl : L ≤ 3072) : ∃ W', J_299_23_j232 L xs W (nI i) = some (.inl (nI (i + 6), W')) ∧ Sim (k + 7) W' := by
  have a1 : ix (nI i + 1) L = some (i + 1) := ixl (c := 1) (by omega) hl
  have a2 : ix (nI i + 2) L = some (i + 2) := ixl (c := 2) (by omega) hl
  have a3 : ix (nI i + 3) L = some (i + 3) := ixl (c := 3) (by omega) hl
  have a4 : ix (nI i + 4) L = some (i + 4) := ixl (c := 4) (by omega) hl
  have a5 : ix (nI i + 5) L = some (i + 5) := ixl (c := 5) (by omega) hl
  obtain ⟨v, B, u, o, e1, e2, e3, e4, e5⟩ := op0 h (xs (i + 1)) (xs (i + 2)) (xs (i + 3)) (xs (i + 4)) (xs (i + 5))
  have e2' : F_139 B.md (xs (i + 1)) (xs (i + 2)) (xs (i + 3)) (xs (i + 4)) (xs (i + 5)) = some (u, o) := e2
  refine ⟨B.w_md o, ?_, e5⟩
  unfold J_299_23_j232
  rw [a1, a2, a3, a4, a5, Option.bind_some, Option.bind_some, Option.bind_some, Option.bind_some, Option.bind_some, e1, Option.bind_some]
  dsimp only
  rw [Option.bind_some, Option.bind_some, Option.bind_some, Option.bind_some, Option.bind_some, e2', Option.bind_some]
  dsimp only
  refine (tailA e3 e4).trans ?_
  show some (Sum.inl (nI i + 6, B.w_md o)) = _
  rw [show (6 : Int32) = nI 6 from rfl, nI_add]
theorem gl1 (h : Sim k W) (hk : k < 90000) (hL : i + 6 ≤ L) (hl : L ≤ 3072) : ∃ W', J_299_23_j336 L xs W (nI i) = some (.inl (nI (i + 6), W')) ∧ Sim (k + 7) W' := by
  have a1 : ix (nI i + 1) L = some (i + 1) := ixl (c := 1) (by omega) hl
  obtain ⟨v, B, u, o, e1, e2, e3, e4, e5⟩ := op1 h (xs (i + 1))
  have e2' : F_140 B.md (xs (i + 1)) = some (u, o) := e2
  refine ⟨B.w_md o, ?_, e5⟩
  unfold J_299_23_j336
  rw [a1, Option.bind_some, e1, Option.bind_some]
  dsimp only
  rw [Option.bind_some, e2', Option.bind_some]
  dsimp only
  refine (tailA e3 e4).trans ?_
  show some (Sum.inl (nI i + 6, B.w_md o)) = _
  rw [show (6 : Int32) = nI 6 from rfl, nI_add]
theorem gl2 (h : Sim k W) (hk : k < 90000) (hL : i + 6 ≤ L) (hl : L ≤ 3072) : ∃ W', J_299_23_j392 L xs W (nI i) = some (.inl (nI (i + 6), W')) ∧ Sim (k + 7) W' := by
  obtain ⟨v, B, o, e1, e2, e5⟩ := op2 h
  refine ⟨B.w_md o, ?_, e5⟩
  unfold J_299_23_j392
  rw [e1, Option.bind_some]
  dsimp only
  rw [e2, Option.bind_some]
  dsimp only
  rw [Option.bind_some, if_pos rfl]
  show some (Sum.inl (nI i + 6, B.w_md o)) = _
  rw [show (6 : Int32) = nI 6 from rfl, nI_add]
theorem gl3 (h : Sim k W) (hk : k < 90000) (hL : i + 6 ≤ L) (hl : L ≤ 3072) : ∃ W', J_299_23_j405 L xs W (nI i) = some (.inl (nI (i + 6), W')) ∧ Sim (k + 7) W' := by
  obtain ⟨v, B, u, o, e1, e2, e3, e4, e5⟩ := op3 h
  have e2' : F_165 B.md = some (u, o) := e2
  refine ⟨B.w_md o, ?_, e5⟩
  unfold J_299_23_j405
  rw [e1, Option.bind_some]
  dsimp only
  rw [e2', Option.bind_some]
  dsimp only
  refine (tailA e3 e4).trans ?_
  show some (Sum.inl (nI i + 6, B.w_md o)) = _
  rw [show (6 : Int32) = nI 6 from rfl, nI_add]
theorem gl4 (h : Sim k W) (hk : k < 90000) (hL : i + 6 ≤ L) (hl : L ≤ 3072) : ∃ W', J_299_23_j449 L xs W (nI i) = some (.inl (nI (i + 6), W')) ∧ Sim (k + 7) W' := by
  have a1 : ix (nI i + 1) L = some (i + 1) := ixl (c := 1) (by omega) hl
  have a2 : ix (nI i + 2) L = some (i + 2) := ixl (c := 2) (by omega) hl
  obtain ⟨v, B, u, o, e1, e2, e3, e4, e5⟩ := op4 h hk (xs (i + 1)) (xs (i + 2))
  have e2' : F_185 B.md (xs (i + 1)) (xs (i + 2)) = some (u, o) := e2
  refine ⟨B.w_md o, ?_, e5⟩
  unfold J_299_23_j449
  rw [a1, a2, Option.bind_some, Option.bind_some, e1, Option.bind_some]
  dsimp only
  rw [Option.bind_some, Option.bind_some, e2', Option.bind_some]
  dsimp only
  refine (tailA e3 e4).trans ?_
  show some (Sum.inl (nI i + 6, B.w_md o)) = _
  rw [show (6 : Int32) = nI 6 from rfl, nI_add]
theorem gl5 (h : Sim k W) (hk : k < 90000) (hL : i + 6 ≤ L) (hl : L ≤ 3072) : ∃ W', J_299_23_j517 L xs W (nI i) = some (.inl (nI (i + 6), W')) ∧ Sim (k + 7) W' := by
  have a1 : ix (nI i + 1) L = some (i + 1) := ixl (c := 1) (by omega) hl
  have a2 : ix (nI i + 2) L = some (i + 2) := ixl (c := 2) (by omega) hl
  obtain ⟨v, B, u, o, e1, e2, e3, e4, e5⟩ := op5 h hk (xs (i + 1)) (xs (i + 2))
  have e2' : F_187 B.md (xs (i + 1)) (xs (i + 2)) = some (u, o) := e2
  refine ⟨B.w_md o, ?_, e5⟩
  unfold J_299_23_j517
  rw [a1, a2, Option.bind_some, Option.bind_some, e1, Option.bind_some]
  dsimp only
  rw [Option.bind_some, Option.bind_some, e2', Option.bind_some]
  dsimp only
  refine (tailA e3 e4).trans ?_
  show some (Sum.inl (nI i + 6, B.w_md o)) = _
  rw [show (6 : Int32) = nI 6 from rfl, nI_add]
theorem gl6 (h : Sim k W) (hk : k < 90000) (hL : i + 6 ≤ L) (hl : L ≤ 3072) : ∃ W', J_299_23_j585 L xs W (nI i) = some (.inl (nI (i + 6), W')) ∧ Sim (k + 7) W' := by
  have a1 : ix (nI i + 1) L = some (i + 1) := ixl (c := 1) (by omega) hl
  have a2 : ix (nI i + 2) L = some (i + 2) := ixl (c := 2) (by omega) hl
  obtain ⟨v, B, u, o, e1, e2, e3, e4, e5⟩ := op6 h hk (xs (i + 1)) (xs (i + 2))
  have e2' : F_188 B.md (xs (i + 1)) (xs (i + 2)) = some (u, o) := e2
  refine ⟨B.w_md o, ?_, e5⟩
  unfold J_299_23_j585
  rw [a1, a2, Option.bind_some, Option.bind_some, e1, Option.bind_some]
  dsimp only
  rw [Option.bind_some, Option.bind_some, e2', Option.bind_some]
  dsimp only
  refine (tailA e3 e4).trans ?_
  show some (Sum.inl (nI i + 6, B.w_md o)) = _
  rw [show (6 : Int32) = nI 6 from rfl, nI_add]
theorem gl7 (h : Sim k W) (hk : k < 90000) (hL : i + 6 ≤ L) (hl : L ≤ 3072) : ∃ W', J_299_23_j653 L xs W (nI i) = some (.inl (nI (i + 6), W')) ∧ Sim (k + 7) W' := by
  have a1 : ix (nI i + 1) L = some (i + 1) := ixl (c := 1) (by omega) hl
  have a2 : ix (nI i + 2) L = some (i + 2) := ixl (c := 2) (by omega) hl
  obtain ⟨v, B, u, o, e1, e2, e3, e4, e5⟩ := op7 h hk (xs (i + 1)) (xs (i + 2))
  have e2' : F_189 B.md (xs (i + 1)) (xs (i + 2)) = some (u, o) := e2
  refine ⟨B.w_md o, ?_, e5⟩
  unfold J_299_23_j653
  rw [a1, a2, Option.bind_some, Option.bind_some, e1, Option.bind_some]
  dsimp only
  rw [Option.bind_some, Option.bind_some, e2', Option.bind_some]
  dsimp only
  refine (tailA e3 e4).trans ?_
  show some (Sum.inl (nI i + 6, B.w_md o)) = _
  rw [show (6 : Int32) = nI 6 from rfl, nI_add]
theorem gl8 (h : Sim k W) (hk : k < 90000) (hL : i + 6 ≤ L) (hl : L ≤ 3072) : ∃ W', J_299_23_j721 L xs W (nI i) = some (.inl (nI (i + 6), W')) ∧ Sim (k + 7) W' := by
  have a1 : ix (nI i + 1) L = some (i + 1) := ixl (c := 1) (by omega) hl
  have a2 : ix (nI i + 2) L = some (i + 2) := ixl (c := 2) (by omega) hl
  obtain ⟨v, B, u, o, e1, e2, e3, e4, e5⟩ := op8 h hk (xs (i + 1)) (xs (i + 2))
  have e2' : F_193 B.md (xs (i + 1)) (xs (i + 2)) = some (u, o) := e2
  refine ⟨B.w_md o, ?_, e5⟩
  unfold J_299_23_j721
  rw [a1, a2, Option.bind_some, Option.bind_some, e1, Option.bind_some]
  dsimp only
  rw [Option.bind_some, Option.bind_some, e2', Option.bind_some]
  dsimp only
  refine (tailA e3 e4).trans ?_
  show some (Sum.inl (nI i + 6, B.w_md o)) = _
  rw [show (6 : Int32) = nI 6 from rfl, nI_add]
theorem gl9 (h : Sim k W) (hk : k < 90000) (hL : i + 6 ≤ L) (hl : L ≤ 3072) : ∃ W', J_299_23_j789 L xs W (nI i) = some (.inl (nI (i + 6), W')) ∧ Sim (k + 7) W' := by
  have a1 : ix (nI i + 1) L = some (i + 1) := ixl (c := 1) (by omega) hl
  obtain ⟨v, B, u, o, e1, e2, e3, e4, e5⟩ := op9 h hk (xs (i + 1))
  have e2' : F_194 B.md (xs (i + 1)) = some (u, o) := e2
  refine ⟨B.w_md o, ?_, e5⟩
  unfold J_299_23_j789
  rw [a1, Option.bind_some, e1, Option.bind_some]
  dsimp only
  rw [Option.bind_some, e2', Option.bind_some]
  dsimp only
  refine (tailA e3 e4).trans ?_
  show some (Sum.inl (nI i + 6, B.w_md o)) = _
  rw [show (6 : Int32) = nI 6 from rfl, nI_add]
theorem gl10 (h : Sim k W) (hk : k < 90000) (hL : i + 6 ≤ L) (hl : L ≤ 3072) : ∃ W', J_299_23_j845 L xs W (nI i) = some (.inl (nI (i + 6), W')) ∧ Sim (k + 7) W' := by
  have a1 : ix (nI i + 1) L = some (i + 1) := ixl (c := 1) (by omega) hl
  obtain ⟨v, B, u, o, e1, e2, e3, e4, e5⟩ := op10 h hk (xs (i + 1))
  have e2' : F_195 B.md (xs (i + 1)) = some (u, o) := e2
  refine ⟨B.w_md o, ?_, e5⟩
  unfold J_299_23_j845
  rw [a1, Option.bind_some, e1, Option.bind_some]
  dsimp only
  rw [Option.bind_some, e2', Option.bind_some]
  dsimp only
  refine (tailA e3 e4).trans ?_
  show some (Sum.inl (nI i + 6, B.w_md o)) = _
  rw [show (6 : Int32) = nI 6 from rfl, nI_add]
theorem gl11 (h : Sim k W) (hk : k < 90000) (hL : i + 6 ≤ L) (hl : L ≤ 3072) : ∃ W', J_299_23_j901 L xs W (nI i) = some (.inl (nI (i + 6), W')) ∧ Sim (k + 7) W' := by
  have a1 : ix (nI i + 1) L = some (i + 1) := ixl (c := 1) (by omega) hl
  have a2 : ix (nI i + 2) L = some (i + 2) := ixl (c := 2) (by omega) hl
  have a3 : ix (nI i + 3) L = some (i + 3) := ixl (c := 3) (by omega) hl
  have a4 : ix (nI i + 4) L = some (i + 4) := ixl (c := 4) (by omega) hl
  obtain ⟨v, B, u, o, e1, e2, e3, e4, e5⟩ := op11 h hk (xs (i + 1)) (xs (i + 2)) (xs (i + 3)) (xs (i + 4))
  have e2' : F_196 B.md (xs (i + 1)) (xs (i + 2)) (xs (i + 3)) (xs (i + 4)) = some (u, o) := e2
  refine ⟨B.w_md o, ?_, e5⟩
  unfold J_299_23_j901
  rw [a1, a2, a3, a4, Option.bind_some, Option.bind_some, Option.bind_some, Option.bind_some, e1, Option.bind_some]
  dsimp only
  rw [Option.bind_some, Option.bind_some, Option.bind_some, Option.bind_some, e2', Option.bind_some]
  dsimp only
  refine (tailA e3 e4).trans ?_
  show some (Sum.inl (nI i + 6, B.w_md o)) = _
  rw [show (6 : Int32) = nI 6 from rfl, nI_add]
theorem gl12 (h : Sim k W) (hk : k < 90000) (hL : i + 6 ≤ L) (hl : L ≤ 3072) : ∃ W', J_299_23_j993 L xs W (nI i) = some (.inl (nI (i + 6), W')) ∧ Sim (k + 7) W' := by
  have a1 : ix (nI i + 1) L = some (i + 1) := ixl (c := 1) (by omega) hl
  obtain ⟨v, B, u, o, e1, e2, e3, e4, e5⟩ := op12 h hk (xs (i + 1))
  have e2' : F_197 B.md (xs (i + 1)) = some (u, o) := e2
  refine ⟨B.w_md o, ?_, e5⟩
  unfold J_299_23_j993
  rw [a1, Option.bind_some, e1, Option.bind_some]
  dsimp only
  rw [Option.bind_some, e2', Option.bind_some]
  dsimp only
  refine (tailA e3 e4).trans ?_
  show some (Sum.inl (nI i + 6, B.w_md o)) = _
  rw [show (6 : Int32) = nI 6 from rfl, nI_add]
theorem gl13 (h : Sim k W) (hk : k < 90000) (hL : i + 6 ≤ L) (hl : L ≤ 3072) : ∃ W', J_299_23_j1049 L xs W (nI i) = some (.inl (nI (i + 6), W')) ∧ Sim (k + 7) W' := by
  obtain ⟨v, B, u, o, e1, e2, e3, e4, e5⟩ := op13 h
  have e2' : F_167 B.md = some (u, o) := e2
  refine ⟨B.w_md o, ?_, e5⟩
  unfold J_299_23_j1049
  rw [e1, Option.bind_some]
  dsimp only
  rw [e2', Option.bind_some]
  dsimp only
  refine (tailA e3 e4).trans ?_
  show some (Sum.inl (nI i + 6, B.w_md o)) = _
  rw [show (6 : Int32) = nI 6 from rfl, nI_add]
theorem gl14 (h : Sim k W) (hk : k < 90000) (hL : i + 6 ≤ L) (hl : L ≤ 3072) : ∃ W', J_299_23_j1093 L xs W (nI i) = some (.inl (nI (i + 6), W')) ∧ Sim (k + 7) W' := by
  obtain ⟨v, o, e1, e2, e5⟩ := op14 h
  refine ⟨W.w_md o, ?_, e5⟩
  unfold J_299_23_j1093
  rw [e1, Option.bind_some, e2, Option.bind_some]
  dsimp only
  rw [Option.bind_some, if_pos rfl]
  show some (Sum.inl (nI i + 6, W.w_md o)) = _
  rw [show (6 : Int32) = nI 6 from rfl, nI_add]
theorem gl15 (h : Sim k W) (hk : k < 90000) (hL : i + 6 ≤ L) (hl : L ≤ 3072) : ∃ W', J_299_23_j1106 L xs W (nI i) = some (.inl (nI (i + 6), W')) ∧ Sim (k + 7) W' := by
  obtain ⟨v, B, o, e1, e2, e5⟩ := op15 h
  refine ⟨B.w_md o, ?_, e5⟩
  unfold J_299_23_j1106
  rw [e1, Option.bind_some]
  dsimp only
  rw [e2, Option.bind_some]
  dsimp only
  rw [Option.bind_some, if_pos rfl]
  show some (Sum.inl (nI i + 6, B.w_md o)) = _
  rw [show (6 : Int32) = nI 6 from rfl, nI_add]
theorem gl16 (h : Sim k W) (hk : k < 90000) (hL : i + 6 ≤ L) (hl : L ≤ 3072) : ∃ W', J_299_23_j1119 L xs W (nI i) = some (.inl (nI (i + 6), W')) ∧ Sim (k + 7) W' := by
  obtain ⟨v, B, u, o, e1, e2, e3, e4, e5⟩ := op16 h
  have e2' : F_170 B.md = some (u, o) := e2
  refine ⟨B.w_md o, ?_, e5⟩
  unfold J_299_23_j1119
  rw [e1, Option.bind_some]
  dsimp only
  rw [e2', Option.bind_some]
  dsimp only
  refine (tailA e3 e4).trans ?_
  show some (Sum.inl (nI i + 6, B.w_md o)) = _
  rw [show (6 : Int32) = nI 6 from rfl, nI_add]
theorem gl17 (h : Sim k W) (hk : k < 90000) (hL : i + 6 ≤ L) (hl : L ≤ 3072) : ∃ W', J_299_23_j1163 L xs W (nI i) = some (.inl (nI (i + 6), W')) ∧ Sim (k + 7) W' := by
  obtain ⟨v, o, e1, e2, e5⟩ := op17 h
  refine ⟨W.w_md o, ?_, e5⟩
  unfold J_299_23_j1163
  rw [e1, Option.bind_some, e2, Option.bind_some]
  dsimp only
  rw [Option.bind_some, if_pos rfl]
  show some (Sum.inl (nI i + 6, W.w_md o)) = _
  rw [show (6 : Int32) = nI 6 from rfl, nI_add]
theorem gl18 (h : Sim k W) (hk : k < 90000) (hL : i + 6 ≤ L) (hl : L ≤ 3072) : ∃ W', J_299_23_j1176 L xs W (nI i) = some (.inl (nI (i + 6), W')) ∧ Sim (k + 7) W' := by
  have a1 : ix (nI i + 1) L = some (i + 1) := ixl (c := 1) (by omega) hl
  obtain ⟨v, B, u, o, e1, e2, e3, e4, e5⟩ := op18 h (xs (i + 1))
  have e2' : F_199 B.md (xs (i + 1)) = some (u, o) := e2
  refine ⟨B.w_md o, ?_, e5⟩
  unfold J_299_23_j1176
  rw [a1, Option.bind_some, e1, Option.bind_some]
  dsimp only
  rw [Option.bind_some, e2', Option.bind_some]
  dsimp only
  refine (tailA e3 e4).trans ?_
  show some (Sum.inl (nI i + 6, B.w_md o)) = _
  rw [show (6 : Int32) = nI 6 from rfl, nI_add]
theorem gl19 (h : Sim k W) (hk : k < 90000) (hL : i + 6 ≤ L) (hl : L ≤ 3072) : ∃ W', J_299_23_j1232 L xs W (nI i) = some (.inl (nI (i + 6), W')) ∧ Sim (k + 7) W' := by
  have a1 : ix (nI i + 1) L = some (i + 1) := ixl (c := 1) (by omega) hl
  have a2 : ix (nI i + 2) L = some (i + 2) := ixl (c := 2) (by omega) hl
  obtain ⟨v, B, u, o, e1, e2, e3, e4, e5, hu⟩ := op19 h hk (xs (i + 1)) (xs (i + 2))
  have e2' : F_200 B.md (xs (i + 1)) (xs (i + 2)) = some (u, o) := e2
  refine ⟨B.w_md o, ?_, e5⟩
  unfold J_299_23_j1232
  rw [a1, a2, Option.bind_some, Option.bind_some, e1, Option.bind_some]
  dsimp only
  rw [Option.bind_some, Option.bind_some, e2', Option.bind_some]
  dsimp only
  refine (tailB (g := fun Z a c => J_299_23_j1298 L xs Z (nI i) a c) (nx := fun Z => J_299_23_j1304 L xs Z (nI i)) (fun Z t => by
    show J_299_23_j1298 L xs Z (nI i) t t = _
    unfold J_299_23_j1298
    rw [if_pos (l_eq.2 rfl)]) hu e3 e4).trans ?_
  show some (Sum.inl (nI i + 6, B.w_md o)) = _
  rw [show (6 : Int32) = nI 6 from rfl, nI_add]
theorem gl20 (h : Sim k W) (hk : k < 90000) (hL : i + 6 ≤ L) (hl : L ≤ 3072) : ∃ W', J_299_23_j1307 L xs W (nI i) = some (.inl (nI (i + 6), W')) ∧ Sim (k + 7) W' := by
  have a1 : ix (nI i + 1) L = some (i + 1) := ixl (c := 1) (by omega) hl
  have a2 : ix (nI i + 2) L = some (i + 2) := ixl (c := 2) (by omega) hl
  obtain ⟨v, B, u, o, e1, e2, e3, e4, e5⟩ := op20 h hk (xs (i + 1)) (xs (i + 2))
  have e2' : F_201 B.md (xs (i + 1)) (xs (i + 2)) = some (u, o) := e2
  refine ⟨B.w_md o, ?_, e5⟩
  unfold J_299_23_j1307
  rw [a1, a2, Option.bind_some, Option.bind_some, e1, Option.bind_some]
  dsimp only
  rw [Option.bind_some, Option.bind_some, e2', Option.bind_some]
  dsimp only
  refine (tailA e3 e4).trans ?_
  show some (Sum.inl (nI i + 6, B.w_md o)) = _
  rw [show (6 : Int32) = nI 6 from rfl, nI_add]
theorem gl21 (h : Sim k W) (hk : k < 90000) (hL : i + 6 ≤ L) (hl : L ≤ 3072) : ∃ W', J_299_23_j1375 L xs W (nI i) = some (.inl (nI (i + 6), W')) ∧ Sim (k + 7) W' := by
  have a1 : ix (nI i + 1) L = some (i + 1) := ixl (c := 1) (by omega) hl
  obtain ⟨v, B, u, o, e1, e2, e3, e4, e5⟩ := op21 h hk (xs (i + 1))
  have e2' : F_202 B.md (xs (i + 1)) = some (u, o) := e2
  refine ⟨B.w_md o, ?_, e5⟩
  unfold J_299_23_j1375
  rw [a1, Option.bind_some, e1, Option.bind_some]
  dsimp only
  rw [Option.bind_some, e2', Option.bind_some]
  dsimp only
  refine (tailA e3 e4).trans ?_
  show some (Sum.inl (nI i + 6, B.w_md o)) = _
  rw [show (6 : Int32) = nI 6 from rfl, nI_add]
theorem gl22 (h : Sim k W) (hk : k < 90000) (hL : i + 6 ≤ L) (hl : L ≤ 3072) : ∃ W', J_299_23_j1431 L xs W (nI i) = some (.inl (nI (i + 6), W')) ∧ Sim (k + 7) W' := by
  have a1 : ix (nI i + 1) L = some (i + 1) := ixl (c := 1) (by omega) hl
  obtain ⟨v, B, u, o, e1, e2, e3, e4, e5⟩ := op22 h hk (xs (i + 1))
  have e2' : F_203 B.md (xs (i + 1)) = some (u, o) := e2
  refine ⟨B.w_md o, ?_, e5⟩
  unfold J_299_23_j1431
  rw [a1, Option.bind_some, e1, Option.bind_some]
  dsimp only
  rw [Option.bind_some, e2', Option.bind_some]
  dsimp only
  refine (tailA e3 e4).trans ?_
  show some (Sum.inl (nI i + 6, B.w_md o)) = _
  rw [show (6 : Int32) = nI 6 from rfl, nI_add]
theorem gl23 (h : Sim k W) (hk : k < 90000) (hL : i + 6 ≤ L) (hl : L ≤ 3072) : ∃ W', J_299_23_j1487 L xs W (nI i) = some (.inl (nI (i + 6), W')) ∧ Sim (k + 7) W' := by
  have a1 : ix (nI i + 1) L = some (i + 1) := ixl (c := 1) (by omega) hl
  obtain ⟨v, B, u, o, e1, e2, e3, e4, e5⟩ := op23 h hk (xs (i + 1))
  have e2' : F_204 B.md (xs (i + 1)) = some (u, o) := e2
  refine ⟨B.w_md o, ?_, e5⟩
  unfold J_299_23_j1487
  rw [a1, Option.bind_some, e1, Option.bind_some]
  dsimp only
  rw [Option.bind_some, e2', Option.bind_some]
  dsimp only
  refine (tailA e3 e4).trans ?_
  show some (Sum.inl (nI i + 6, B.w_md o)) = _
  rw [show (6 : Int32) = nI 6 from rfl, nI_add]
theorem gl24 (h : Sim k W) (hk : k < 90000) (hL : i + 6 ≤ L) (hl : L ≤ 3072) : ∃ W', J_299_23_j1543 L xs W (nI i) = some (.inl (nI (i + 6), W')) ∧ Sim (k + 7) W' := by
  have a1 : ix (nI i + 1) L = some (i + 1) := ixl (c := 1) (by omega) hl
  obtain ⟨v, B, u, o, e1, e2, e3, e4, e5, hu⟩ := op24 h hk (xs (i + 1))
  have e2' : F_211 B.md (xs (i + 1)) = some (u, o) := e2
  refine ⟨B.w_md o, ?_, e5⟩
  unfold J_299_23_j1543
  rw [a1, Option.bind_some, e1, Option.bind_some]
  dsimp only
  rw [Option.bind_some, e2', Option.bind_some]
  dsimp only
  refine (tailB (g := fun Z a c => J_299_23_j1597 L xs Z (nI i) a c) (nx := fun Z => J_299_23_j1603 L xs Z (nI i)) (fun Z t => by
    show J_299_23_j1597 L xs Z (nI i) t t = _
    unfold J_299_23_j1597
    rw [if_pos (l_eq.2 rfl)]) hu e3 e4).trans ?_
  show some (Sum.inl (nI i + 6, B.w_md o)) = _
  rw [show (6 : Int32) = nI 6 from rfl, nI_add]
theorem gl25 (h : Sim k W) (hk : k < 90000) (hL : i + 6 ≤ L) (hl : L ≤ 3072) : ∃ W', J_299_23_j1606 L xs W (nI i) = some (.inl (nI (i + 6), W')) ∧ Sim (k + 7) W' := by
  obtain ⟨v, B, o, e1, e2, e5⟩ := op25 h hk
  refine ⟨B.w_md o, ?_, e5⟩
  unfold J_299_23_j1606
  rw [e1, Option.bind_some]
  dsimp only
  rw [e2, Option.bind_some]
  dsimp only
  rw [Option.bind_some, if_pos rfl]
  show some (Sum.inl (nI i + 6, B.w_md o)) = _
  rw [show (6 : Int32) = nI 6 from rfl, nI_add]
theorem gl26 (h : Sim k W) (hk : k < 90000) (hL : i + 6 ≤ L) (hl : L ≤ 3072) : ∃ W', J_299_23_j1619 L xs W (nI i) = some (.inl (nI (i + 6), W')) ∧ Sim (k + 7) W' := by
  have a1 : ix (nI i + 1) L = some (i + 1) := ixl (c := 1) (by omega) hl
  obtain ⟨v, B, u, o, e1, e2, e3, e4, e5⟩ := op26 h hk (xs (i + 1))
  have e2' : F_215 B.md (xs (i + 1)) = some (u, o) := e2
  refine ⟨B.w_md o, ?_, e5⟩
  unfold J_299_23_j1619
  rw [a1, Option.bind_some, e1, Option.bind_some]
  dsimp only
  rw [Option.bind_some, e2', Option.bind_some]
  dsimp only
  refine (tailA e3 e4).trans ?_
  show some (Sum.inl (nI i + 6, B.w_md o)) = _
  rw [show (6 : Int32) = nI 6 from rfl, nI_add]
theorem gl27 (h : Sim k W) (hk : k < 90000) (hL : i + 6 ≤ L) (hl : L ≤ 3072) : ∃ W', J_299_23_j1675 L xs W (nI i) = some (.inl (nI (i + 6), W')) ∧ Sim (k + 7) W' := by
  have a1 : ix (nI i + 1) L = some (i + 1) := ixl (c := 1) (by omega) hl
  obtain ⟨v, B, u, o, e1, e2, e3, e4, e5⟩ := op27 h (xs (i + 1))
  have e2' : F_223 B.md (xs (i + 1)) = some (u, o) := e2
  refine ⟨B.w_md o, ?_, e5⟩
  unfold J_299_23_j1675
  rw [a1, Option.bind_some, e1, Option.bind_some]
  dsimp only
  rw [Option.bind_some, e2', Option.bind_some]
  dsimp only
  refine (tailA e3 e4).trans ?_
  show some (Sum.inl (nI i + 6, B.w_md o)) = _
  rw [show (6 : Int32) = nI 6 from rfl, nI_add]
theorem gl28 (h : Sim k W) (hk : k < 90000) (hL : i + 6 ≤ L) (hl : L ≤ 3072) : ∃ W', J_299_23_j1731 L xs W (nI i) = some (.inl (nI (i + 6), W')) ∧ Sim (k + 7) W' := by
  obtain ⟨v, B, o, e1, e2, e5⟩ := op28 h
  refine ⟨B.w_md o, ?_, e5⟩
  unfold J_299_23_j1731
  rw [e1, Option.bind_some]
  dsimp only
  rw [e2, Option.bind_some]
  dsimp only
  rw [Option.bind_some, if_pos rfl]
  show some (Sum.inl (nI i + 6, B.w_md o)) = _
  rw [show (6 : Int32) = nI 6 from rfl, nI_add]
theorem gl29 (h : Sim k W) (hk : k < 90000) (hL : i + 6 ≤ L) (hl : L ≤ 3072) : ∃ W', J_299_23_j1744 L xs W (nI i) = some (.inl (nI (i + 6), W')) ∧ Sim (k + 7) W' := by
  have a1 : ix (nI i + 1) L = some (i + 1) := ixl (c := 1) (by omega) hl
  obtain ⟨v, B, u, o, e1, e2, e3, e4, e5⟩ := op29 h hk (xs (i + 1))
  have e2' : F_228 B.md (xs (i + 1)) = some (u, o) := e2
  refine ⟨B.w_md o, ?_, e5⟩
  unfold J_299_23_j1744
  rw [a1, Option.bind_some, e1, Option.bind_some]
  dsimp only
  rw [Option.bind_some, e2', Option.bind_some]
  dsimp only
  refine (tailA e3 e4).trans ?_
  show some (Sum.inl (nI i + 6, B.w_md o)) = _
  rw [show (6 : Int32) = nI 6 from rfl, nI_add]
theorem gl30 (h : Sim k W) (hk : k < 90000) (hL : i + 6 ≤ L) (hl : L ≤ 3072) : ∃ W', J_299_23_j1800 L xs W (nI i) = some (.inl (nI (i + 6), W')) ∧ Sim (k + 7) W' := by
  obtain ⟨v, B, o, e1, e2, e5⟩ := op30 h hk
  refine ⟨B.w_md o, ?_, e5⟩
  unfold J_299_23_j1800
  rw [e1, Option.bind_some]
  dsimp only
  rw [e2, Option.bind_some]
  dsimp only
  rw [Option.bind_some, if_pos rfl]
  show some (Sum.inl (nI i + 6, B.w_md o)) = _
  rw [show (6 : Int32) = nI 6 from rfl, nI_add]
theorem gl31 (h : Sim k W) (hk : k < 90000) (hL : i + 6 ≤ L) (hl : L ≤ 3072) : ∃ W', J_299_23_j1813 L xs W (nI i) = some (.inl (nI (i + 6), W')) ∧ Sim (k + 7) W' := by
  have a1 : ix (nI i + 1) L = some (i + 1) := ixl (c := 1) (by omega) hl
  have a2 : ix (nI i + 2) L = some (i + 2) := ixl (c := 2) (by omega) hl
  obtain ⟨v, B, u, o, e1, e2, e3, e4, e5⟩ := op31 h hk (xs (i + 1)) (xs (i + 2))
  have e2' : F_231 B.md (xs (i + 1)) (xs (i + 2)) = some (u, o) := e2
  refine ⟨B.w_md o, ?_, e5⟩
  unfold J_299_23_j1813
  rw [a1, a2, Option.bind_some, Option.bind_some, e1, Option.bind_some]
  dsimp only
  rw [Option.bind_some, Option.bind_some, e2', Option.bind_some]
  dsimp only
  refine (tailA e3 e4).trans ?_
  show some (Sum.inl (nI i + 6, B.w_md o)) = _
  rw [show (6 : Int32) = nI 6 from rfl, nI_add]
theorem gl32 (h : Sim k W) (hk : k < 90000) (hL : i + 6 ≤ L) (hl : L ≤ 3072) : ∃ W', J_299_23_j1881 L xs W (nI i) = some (.inl (nI (i + 6), W')) ∧ Sim (k + 7) W' := by
  have a1 : ix (nI i + 1) L = some (i + 1) := ixl (c := 1) (by omega) hl
  obtain ⟨v, B, u, o, e1, e2, e3, e4, e5⟩ := op32 h hk (xs (i + 1))
  have e2' : F_233 B.md (xs (i + 1)) = some (u, o) := e2
  refine ⟨B.w_md o, ?_, e5⟩
  unfold J_299_23_j1881
  rw [a1, Option.bind_some, e1, Option.bind_some]
  dsimp only
  rw [Option.bind_some, e2', Option.bind_some]
  dsimp only
  refine (tailA e3 e4).trans ?_
  show some (Sum.inl (nI i + 6, B.w_md o)) = _
  rw [show (6 : Int32) = nI 6 from rfl, nI_add]
theorem gl33 (h : Sim k W) (hk : k < 90000) (hL : i + 6 ≤ L) (hl : L ≤ 3072) : ∃ W', J_299_23_j1937 L xs W (nI i) = some (.inl (nI (i + 6), W')) ∧ Sim (k + 7) W' := by
  have a1 : ix (nI i + 1) L = some (i + 1) := ixl (c := 1) (by omega) hl
  have a2 : ix (nI i + 2) L = some (i + 2) := ixl (c := 2) (by omega) hl
  obtain ⟨v, B, u, o, e1, e2, e3, e4, e5⟩ := op33 h hk (xs (i + 1)) (xs (i + 2))
  have e2' : F_234 B.md (xs (i + 1)) (xs (i + 2)) = some (u, o) := e2
  refine ⟨B.w_md o, ?_, e5⟩
  unfold J_299_23_j1937
  rw [a1, a2, Option.bind_some, Option.bind_some, e1, Option.bind_some]
  dsimp only
  rw [Option.bind_some, Option.bind_some, e2', Option.bind_some]
  dsimp only
  refine (tailA e3 e4).trans ?_
  show some (Sum.inl (nI i + 6, B.w_md o)) = _
  rw [show (6 : Int32) = nI 6 from rfl, nI_add]
theorem gl34 (h : Sim k W) (hk : k < 90000) (hL : i + 6 ≤ L) (hl : L ≤ 3072) : ∃ W', J_299_23_j2005 L xs W (nI i) = some (.inl (nI (i + 6), W')) ∧ Sim (k + 7) W' := by
  have a1 : ix (nI i + 1) L = some (i + 1) := ixl (c := 1) (by omega) hl
  obtain ⟨v, B, u, o, e1, e2, e3, e4, e5⟩ := op34 h (xs (i + 1))
  have e2' : F_238 B.md (xs (i + 1)) = some (u, o) := e2
  refine ⟨B.w_md o, ?_, e5⟩
  unfold J_299_23_j2005
  rw [a1, Option.bind_some, e1, Option.bind_some]
  dsimp only
  rw [Option.bind_some, e2', Option.bind_some]
  dsimp only
  refine (tailA e3 e4).trans ?_
  show some (Sum.inl (nI i + 6, B.w_md o)) = _
  rw [show (6 : Int32) = nI 6 from rfl, nI_add]
theorem gl35 (h : Sim k W) (hk : k < 90000) (hL : i + 6 ≤ L) (hl : L ≤ 3072) : ∃ W', J_299_23_j2061 L xs W (nI i) = some (.inl (nI (i + 6), W')) ∧ Sim (k + 7) W' := by
  have a1 : ix (nI i + 1) L = some (i + 1) := ixl (c := 1) (by omega) hl
  have a2 : ix (nI i + 2) L = some (i + 2) := ixl (c := 2) (by omega) hl
  have a3 : ix (nI i + 3) L = some (i + 3) := ixl (c := 3) (by omega) hl
  obtain ⟨v, B, u, o, e1, e2, e3, e4, e5⟩ := op35 h (xs (i + 1)) (xs (i + 2)) (xs (i + 3))
  have e2' : F_239 B.md (xs (i + 1)) (xs (i + 2)) (xs (i + 3)) = some (u, o) := e2
  refine ⟨B.w_md o, ?_, e5⟩
  unfold J_299_23_j2061
  rw [a1, a2, a3, Option.bind_some, Option.bind_some, Option.bind_some, e1, Option.bind_some]
  dsimp only
  rw [Option.bind_some, Option.bind_some, Option.bind_some, e2', Option.bind_some]
  dsimp only
  refine (tailA e3 e4).trans ?_
  show some (Sum.inl (nI i + 6, B.w_md o)) = _
  rw [show (6 : Int32) = nI 6 from rfl, nI_add]
theorem gl36 (h : Sim k W) (hk : k < 90000) (hL : i + 6 ≤ L) (hl : L ≤ 3072) : ∃ W', J_299_23_j2141 L xs W (nI i) = some (.inl (nI (i + 6), W')) ∧ Sim (k + 7) W' := by
  have a1 : ix (nI i + 1) L = some (i + 1) := ixl (c := 1) (by omega) hl
  obtain ⟨v, B, u, o, e1, e2, e3, e4, e5⟩ := op36 h (xs (i + 1))
  have e2' : F_242 B.md (xs (i + 1)) = some (u, o) := e2
  refine ⟨B.w_md o, ?_, e5⟩
  unfold J_299_23_j2141
  rw [a1, Option.bind_some, e1, Option.bind_some]
  dsimp only
  rw [Option.bind_some, e2', Option.bind_some]
  dsimp only
  refine (tailA e3 e4).trans ?_
  show some (Sum.inl (nI i + 6, B.w_md o)) = _
  rw [show (6 : Int32) = nI 6 from rfl, nI_add]
theorem gl37 (h : Sim k W) (hk : k < 90000) (hL : i + 6 ≤ L) (hl : L ≤ 3072) : ∃ W', J_299_23_j2197 L xs W (nI i) = some (.inl (nI (i + 6), W')) ∧ Sim (k + 7) W' := by
  have a1 : ix (nI i + 1) L = some (i + 1) := ixl (c := 1) (by omega) hl
  have a2 : ix (nI i + 2) L = some (i + 2) := ixl (c := 2) (by omega) hl
  by_cases hz : xs (i + 2) = 0
  · obtain ⟨v, B, u, o, e1, e2, e3, e4, e5⟩ := op37 h (xs (i + 1)) false
    have e2' : F_244 B.md (xs (i + 1)) 0 = some (u, o) := e2
    have e1' : F_293 W (xs (i + 1)) 0 = some (v, B) := e1
    refine ⟨B.w_md o, ?_, e5⟩
    unfold J_299_23_j2197
    rw [a1, a2, Option.bind_some, Option.bind_some, if_pos hz]
    unfold J_299_23_j2218
    rw [e1', Option.bind_some]
    dsimp only
    rw [a1, a2, Option.bind_some, Option.bind_some, if_pos hz]
    unfold J_299_23_j2245
    rw [e2', Option.bind_some]
    dsimp only
    refine (tailA e3 e4).trans ?_
    show some (Sum.inl (nI i + 6, B.w_md o)) = _
    rw [show (6 : Int32) = nI 6 from rfl, nI_add]
  · obtain ⟨v, B, u, o, e1, e2, e3, e4, e5⟩ := op37 h (xs (i + 1)) true
    have e2' : F_244 B.md (xs (i + 1)) 1 = some (u, o) := e2
    have e1' : F_293 W (xs (i + 1)) 1 = some (v, B) := e1
    refine ⟨B.w_md o, ?_, e5⟩
    unfold J_299_23_j2197
    rw [a1, a2, Option.bind_some, Option.bind_some, if_neg hz]
    unfold J_299_23_j2218
    rw [e1', Option.bind_some]
    dsimp only
    rw [a1, a2, Option.bind_some, Option.bind_some, if_neg hz]
    unfold J_299_23_j2245
    rw [e2', Option.bind_some]
    dsimp only
    refine (tailA e3 e4).trans ?_
    show some (Sum.inl (nI i + 6, B.w_md o)) = _
    rw [show (6 : Int32) = nI 6 from rfl, nI_add]
theorem gl38 (h : Sim k W) (hk : k < 90000) (hL : i + 6 ≤ L) (hl : L ≤ 3072) : ∃ W', J_299_23_j2281 L xs W (nI i) = some (.inl (nI (i + 6), W')) ∧ Sim (k + 7) W' := by
  have a1 : ix (nI i + 1) L = some (i + 1) := ixl (c := 1) (by omega) hl
  obtain ⟨v, B, u, o, e1, e2, e3, e4, e5, hu⟩ := op38 h (xs (i + 1))
  have e2' : F_245 B.md (xs (i + 1)) = some (u, o) := e2
  refine ⟨B.w_md o, ?_, e5⟩
  unfold J_299_23_j2281
  rw [a1, Option.bind_some, e1, Option.bind_some]
  dsimp only
  rw [Option.bind_some, e2', Option.bind_some]
  dsimp only
  refine (tailB (g := fun Z a c => J_299_23_j2335 L xs Z (nI i) a c) (nx := fun Z => J_299_23_j2341 L xs Z (nI i)) (fun Z t => by
    show J_299_23_j2335 L xs Z (nI i) t t = _
    unfold J_299_23_j2335
    rw [if_pos (l_eq.2 rfl)]) hu e3 e4).trans ?_
  show some (Sum.inl (nI i + 6, B.w_md o)) = _
  rw [show (6 : Int32) = nI 6 from rfl, nI_add]
theorem gl39 (h : Sim k W) (hk : k < 90000) (hL : i + 6 ≤ L) (hl : L ≤ 3072) : ∃ W', J_299_23_j2344 L xs W (nI i) = some (.inl (nI (i + 6), W')) ∧ Sim (k + 7) W' := by
  have a1 : ix (nI i + 1) L = some (i + 1) := ixl (c := 1) (by omega) hl
  obtain ⟨v, B, u, o, e1, e2, e3, e4, e5⟩ := op39 h (xs (i + 1))
  have e2' : F_247 B.md (xs (i + 1)) = some (u, o) := e2
  refine ⟨B.w_md o, ?_, e5⟩
  unfold J_299_23_j2344
  rw [a1, Option.bind_some, e1, Option.bind_some]
  dsimp only
  rw [Option.bind_some, e2', Option.bind_some]
  dsimp only
  refine (tailA e3 e4).trans ?_
  show some (Sum.inl (nI i + 6, B.w_md o)) = _
  rw [show (6 : Int32) = nI 6 from rfl, nI_add]
theorem gl40 (h : Sim k W) (hk : k < 90000) (hL : i + 6 ≤ L) (hl : L ≤ 3072) : ∃ W', J_299_23_j2400 L xs W (nI i) = some (.inl (nI (i + 6), W')) ∧ Sim (k + 7) W' := by
  have a1 : ix (nI i + 1) L = some (i + 1) := ixl (c := 1) (by omega) hl
  obtain ⟨v, B, u, o, e1, e2, e3, e4, e5⟩ := op40 h hk (xs (i + 1))
  have e2' : F_249 B.md (xs (i + 1)) = some (u, o) := e2
  refine ⟨B.w_md o, ?_, e5⟩
  unfold J_299_23_j2400
  rw [a1, Option.bind_some, e1, Option.bind_some]
  dsimp only
  rw [Option.bind_some, e2', Option.bind_some]
  dsimp only
  refine (tailA e3 e4).trans ?_
  show some (Sum.inl (nI i + 6, B.w_md o)) = _
  rw [show (6 : Int32) = nI 6 from rfl, nI_add]
theorem gl41 (h : Sim k W) (hk : k < 90000) (hL : i + 6 ≤ L) (hl : L ≤ 3072) : ∃ W', J_299_23_j2456 L xs W (nI i) = some (.inl (nI (i + 6), W')) ∧ Sim (k + 7) W' := by
  obtain ⟨v, o, e1, e2, e5⟩ := op41 h
  refine ⟨W.w_md o, ?_, e5⟩
  unfold J_299_23_j2456
  rw [e1, Option.bind_some, e2, Option.bind_some]
  dsimp only
  rw [Option.bind_some, if_pos rfl]
  show some (Sum.inl (nI i + 6, W.w_md o)) = _
  rw [show (6 : Int32) = nI 6 from rfl, nI_add]
theorem gl42 (h : Sim k W) (hk : k < 90000) (hL : i + 6 ≤ L) (hl : L ≤ 3072) : ∃ W', J_299_23_j2469 L xs W (nI i) = some (.inl (nI (i + 6), W')) ∧ Sim (k + 7) W' := by
  obtain ⟨v, B, u, o, e1, e2, e3, e4, e5, hu⟩ := op42 h
  have e2' : F_251 B.md = some (u, o) := e2
  refine ⟨B.w_md o, ?_, e5⟩
  unfold J_299_23_j2469
  rw [e1, Option.bind_some]
  dsimp only
  rw [e2', Option.bind_some]
  dsimp only
  refine (tailB (g := fun Z a c => J_299_23_j2511 L xs Z (nI i) a c) (nx := fun Z => J_299_23_j2517 L xs Z (nI i)) (fun Z t => by
    show J_299_23_j2511 L xs Z (nI i) t t = _
    unfold J_299_23_j2511
    rw [if_pos (l_eq.2 rfl)]) hu e3 e4).trans ?_
  show some (Sum.inl (nI i + 6, B.w_md o)) = _
  rw [show (6 : Int32) = nI 6 from rfl, nI_add]
theorem gl43 (h : Sim k W) (hk : k < 90000) (hL : i + 6 ≤ L) (hl : L ≤ 3072) : ∃ W', J_299_23_j2520 L xs W (nI i) = some (.inl (nI (i + 6), W')) ∧ Sim (k + 7) W' := by
  obtain ⟨v, B, u, o, e1, e2, e3, e4, e5⟩ := op43 h
  have e2' : F_252 B.md = some (u, o) := e2
  refine ⟨B.w_md o, ?_, e5⟩
  unfold J_299_23_j2520
  rw [e1, Option.bind_some]
  dsimp only
  rw [e2', Option.bind_some]
  dsimp only
  refine (tailA e3 e4).trans ?_
  show some (Sum.inl (nI i + 6, B.w_md o)) = _
  rw [show (6 : Int32) = nI 6 from rfl, nI_add]
end GL
