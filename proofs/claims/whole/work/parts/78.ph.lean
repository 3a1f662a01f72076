/-! ===== THE SETUP TEXT: the beginning ===== -/
section PARSE
variable {n : Nat} {M : Md} {tg : Nat → Nat} {wt : Nat → Nat → Nat} {pr : Nat → Nat → Option Nat}
theorem nb_zero (v : Nat) : nb 0 v = 0 := by unfold nb; rw [Nat.zero_shiftRight]
theorem ad_zero (u v : Nat) : ad 0 u v = false := Nat.zero_testBit _
theorem Gr.zero (h1 : 1 ≤ n) (h6 : n ≤ 6) : Gr n 0 := ⟨h1, h6, fun u v _ h => by rw [ad_zero] at h; cases h⟩
theorem bd_begin (B : Bd) (x : Int32) (f : Nat → Int32) : ∃ y, ((((B.w_vertices x).w_edges 0).w_moveCount 0).w_strategyCount 0).w_pile f = y ∧ y.vertices = x ∧ y.edges = 0 ∧ y.moveCount = 0 ∧ y.strategyCount = 0 ∧ y.pile = f := ⟨_, rfl, rfl, rfl, rfl, rfl, rfl⟩
theorem c1 (B : Bd) : ∃ B', F_1 B (nI n) = some B' ∧ CB n 0 B' ∧ CP (fun _ => 0) B' ∧ B'.moveCount = 0 ∧ CS n 0 tg wt pr B' := by
  obtain ⟨f, e, k⟩ := f261 6 B.pile 0 (by decide)
  obtain ⟨y, hy, a1, a2, a3, a4, a5⟩ := bd_begin B (nI n) f
  refine ⟨y, ?_, ⟨a1, a2⟩, fun v hv => by rw [a5, k, if_pos hv, nI_0], a3, a4, fun k hk => absurd hk (Nat.not_lt_zero _)⟩
  unfold F_1
  simp only [Option.bind_some]
  show (F_261 6 B.pile 0).bind _ = _
  rw [e, Option.bind_some, hy]
theorem m150 : ∃ M', F_150 M = some M' ∧ MR 1 0 M'.read ∧ MP (fun _ => 0) M'.read ∧ MS n 0 tg wt pr M'.read ∧ M'.read 13 = 0 ∧ M'.at = M.at ∧ M'.wrong = M.wrong ∧ MF M M' := by
  have clear : ∃ r, lw (G_150_2) 200000 (0, M) = some r ∧ (∀ j, j < 93 → r.read j = 0) ∧ r.at = M.at ∧ r.wrong = M.wrong ∧ MF M r := by
    refine lw_for (n := 93) (fun i st => ∃ X, st = (nI i, X) ∧ (∀ j, j < i → X.read j = 0) ∧ X.at = M.at ∧ X.wrong = M.wrong ∧ MF M X) ?_ ?_ ⟨M, rfl, fun j hj => absurd hj (Nat.not_lt_zero _), rfl, rfl, MF.rf M⟩ (by decide)
    · rintro i st hi ⟨X, rfl, a1, a2, a3, a4⟩
      left
      obtain ⟨Y, hY, y1, y2, y3, y4, y5, y6, y7⟩ := md_read X (upd X.read i 0)
      refine ⟨(nI (i + 1), Y), ?_, Y, rfl, fun j hj => ?_, y1.trans a2, y6.trans a3, a4.tr y7⟩
      · simp only [G_150_2]
        rw [z93, if_neg (nI_ge hi (by decide)), ixn hi (by decide), Option.bind_some, hY, Option.bind_some, nI_1]
      · rw [y5]
        by_cases q : j = i
        · rw [q, pk_us]
        · rw [pk_un q]; exact a1 j (by omega)
    · rintro st ⟨X, rfl, a1, a2, a3, a4⟩
      refine ⟨X, ?_, a1, a2, a3, a4⟩
      simp only [G_150_2]
      rw [z93, if_pos (nI_le (Nat.le_refl _) (by decide))]
  obtain ⟨r, hr, r1, r2, r3, r4⟩ := clear
  obtain ⟨Y, hY, y1, y2, y3, y4, y5, y6, y7⟩ := md_read r (upd r.read 0 1)
  have g : ∀ j, 0 < j → j < 93 → Y.read j = 0 := fun j h1 h2 => by rw [y5, pk_un (by omega)]; exact r1 j h2
  refine ⟨Y, ?_, ⟨by rw [y5, pk_us]; rfl, fun v hv => by rw [g _ (by omega) (by omega), nb_zero, nI_0]⟩, fun v hv => by rw [g _ (by omega) (by omega), nI_0], ⟨by rw [g _ (by omega) (by omega), nI_0], fun k hk => absurd hk (Nat.not_lt_zero _)⟩, g _ (by omega) (by omega), y1.trans r2, y6.trans r3, r4.tr y7⟩
  unfold F_150
  rw [hr, Option.bind_some, show ix 0 93 = some 0 from rfl, Option.bind_some, hY]
  rfl
end PARSE
