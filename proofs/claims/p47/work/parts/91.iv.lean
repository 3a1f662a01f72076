/-! ===== THE INVALID TEXTS; A VALID ONE LOADED ===== -/
def txl (k : Nat) : List Nat := (am_tx k).map fun x => x.toBitVec.toNat
theorem txl_ok : ∀ k, k < 27 → (txl k).length = (am_tx k).length ∧ (txl k).length < 100 ∧ (∀ j, j < 100 → (txl k).getD j 0 < 128) ∧ (∀ j, j < (txl k).length → 0 < (txl k).getD j 0 ∧ (am_tx k).getD j 0 = nI ((txl k).getD j 0)) := by decide +kernel
section INV
variable {W : Wd} {Q : Ps} {H : List Ps} {S : Option Ps} {r : Int32}
theorem to_tx (W : Wd) {k : Nat} (hk : k < 27) : TO W (am_SB + 10 + 2 * k) (txl k) := by
  obtain ⟨t1, t2, t3, t4⟩ := txl_ok k hk
  have hT : am_isT (am_SB + 10 + 2 * k) := ⟨by omega, by omega, by omega⟩
  have hn : ¬ am_SB + 10 + 2 * k < am_SB := by omega
  have hB : am_isB (am_SB + 10 + 2 * k + 1) := ⟨by omega, by omega, by omega⟩
  have hn1 : ¬ am_SB + 10 + 2 * k + 1 < am_SB := by omega
  have e2 : (am_SB + 10 + 2 * k + 1 - (am_SB + 10)) / 2 = k := by omega
  have oa : am_oa (am_SB + 10 + 2 * k + 1) = some ((am_tx k).length, fun j => (am_tx k).getD j 0) := by
    unfold am_oa
    rw [if_pos hB, e2]
  refine ⟨fun i => ?_, fun i hi => (t4 i hi).1, by omega, ?_, ?_, am_SB + 10 + 2 * k + 1, ?_, ?_, fun i hi => ?_⟩
  · by_cases q : i < 100
    · exact t3 i q
    · rw [List.getD_eq_getElem?_getD, List.getElem?_eq_none (by omega)]; exact (by decide : 0 < 128)
  · unfold Wd.rs
    rw [if_neg hn, if_pos hT]
  · unfold Wd.gI Wd.gv
    rw [if_neg hn, if_pos ⟨hT, rfl⟩, if_neg (by decide), if_pos rfl]
    rfl
  · unfold Wd.gR Wd.gv
    rw [if_neg hn, if_pos ⟨hT, rfl⟩, if_pos rfl]
    rfl
  · unfold Wd.ln
    rw [if_neg hn1, if_neg (by omega), if_neg (by omega), oa, t1]
    rfl
  · unfold Wd.aB
    rw [if_neg hn1, oa]
    dsimp only
    rw [ixn (by omega) (by omega)]
    exact congrArg some (t4 i hi).2
/-- where the nineteen go wrong -/
def wr : Nat → Nat
  | 4 => 0
  | 5 => 0
  | 6 => 9
  | 7 => 9
  | 8 => 10
  | 9 => 11
  | 10 => 18
  | 11 => 20
  | 12 => 18
  | 13 => 17
  | 14 => 18
  | 15 => 16
  | 16 => 22
  | 17 => 35
  | 18 => 11
  | 19 => 34
  | 20 => 9
  | 21 => 19
  | _ => 77
theorem wr_ok : ∀ k, k < 19 → good (bf (txl (k + 4))) (txl (k + 4)).length = false ∧ tS (bf (txl (k + 4))) (txl (k + 4)).length (sText (bf (txl (k + 4))) (txl (k + 4)).length).2.1 = wr (k + 4) := by decide +kernel
theorem wr_lt : ∀ k, k < 19 → wr (k + 4) < 2 ^ 31 := by decide +kernel
/-- the class's text is a text -/
def IT (W : Wd) : Prop := ∃ b len, TX b len W.inp
theorem inp_f (W : Wd) (o : Tx) : ∃ X, W.w_inp o = X ∧ X.inp = o ∧ X.board = W.board ∧ X.pp = W.pp ∧ X.saved = W.saved ∧ X.hist = W.hist ∧ X.fps = W.fps ∧ X.dyn = W.dyn ∧ X.kc = W.kc ∧ X.kn = W.kn := ⟨_, rfl, rfl, rfl, rfl, rfl, rfl, rfl, rfl, rfl, rfl⟩
theorem yWrong (hc : CI Q H S r W) (hi : IT W) {k : Nat} (hk : k < 19) : ∃ W', F_387 W (am_SB + 10 + 2 * (k + 4)) (nI (wr (k + 4))) = some (1, W') ∧ CI Q H S r W' ∧ IT W' ∧ W'.cl = W.cl ∧ Co 1 6 W W' := by
  obtain ⟨o, e1, t1⟩ := yType (to_tx W (show k + 4 < 27 by omega)) hi
  obtain ⟨w1, w2⟩ := wr_ok k hk
  obtain ⟨X, hX, x1, x2, x3, x4, x5, x6, x7, x8, x9⟩ := inp_f W o
  rw [hX] at e1
  rw [← x1] at t1
  obtain ⟨T2, e2, t2, -⟩ := qText t1
  rw [w1, if_neg (by decide), w2] at e2
  obtain ⟨Y, hY, y1, y2, y3, y4, y5, y6, y7, y8, y9⟩ := inp_f X T2
  rw [← y1] at t2
  obtain ⟨T3, e3, t3, -⟩ := qText t2
  rw [w1, if_neg (by decide), w2] at e3
  obtain ⟨Z, hZ, z1', z2', z3', z4', z5', z6', z7', z8', z9'⟩ := inp_f Y T3
  have hb : wr (k + 4) < 2 ^ 31 := by
    exact wr_lt k hk
  have hdyn : Z.thr.dyn = W.dyn := z7'.trans (y7.trans x7)
  refine ⟨Z.thr, ?_, hc.cong (z2'.trans (y2.trans x2)) (z3'.trans (y3.trans x3)) (z4'.trans (y4.trans x4)) (z5'.trans (y5.trans x5)) (z6'.trans (y6.trans x6)) hdyn, ⟨_, _, by show TX _ _ Z.inp; rw [z1']; exact t3⟩, cl_dyn hdyn, ?_⟩
  · have e82 : F_82 X = some (nI (wr (k + 4)), Y) := by
      unfold F_82
      rw [e2, Option.bind_some]
      dsimp only
      rw [hY, Option.bind_some]
    have e83 : F_83 Y = some (.inr 1, Z.thr) := by
      unfold F_83
      rw [e3, Option.bind_some]
      dsimp only
      rw [hZ, Option.bind_some, if_neg (nI_m1 hb)]
    have e368 : F_368 Y = some (3294967294, Z.thr) := by
      unfold F_368
      rw [e83, Option.bind_some]
      dsimp only
      rw [xq_r, if_pos rfl]
    unfold F_387 J_387_0_j30
    rw [e1, Option.bind_some]
    dsimp only
    rw [if_neg (by decide), e82, Option.bind_some]
    dsimp only
    rw [if_neg (fun z => z rfl), e368, Option.bind_some]
    dsimp only
    rw [if_neg (fun z => z rfl), if_pos (.inr rfl), Option.bind_some]
  · refine ⟨?_, ?_, ?_⟩
    · show Z.kc + 1 ≤ W.kc + 1
      omega
    · show Z.kn + 6 ≤ W.kn + 6
      omega
    · rw [top_dyn hdyn]
      show W.top + W.kc ≤ W.top + (Z.kc + 1)
      omega
end INV
