/-! ===== THE SETUP TEXT: an edge laid ===== -/
section PARSE
variable {n E : Nat} {M : Md}
/-- with the edge `u v` -/
def ae (E u v : Nat) : Nat := E ||| eb u v
theorem ae_ad {E u v x y : Nat} (hu : u < 6) (hv : v < 6) (hy : y < 6) : ad (ae E u v) x y = (ad E x y || (decide (x = u ∧ y = v) || decide (x = v ∧ y = u))) := by
  unfold ad ae eb
  rw [Nat.testBit_or, Nat.testBit_or, ← Nat.one_shiftLeft, ← Nat.one_shiftLeft, one_shl_bit, one_shl_bit]
  congr 1
  have e1 : (6 * x + y = 6 * u + v) ↔ (x = u ∧ y = v) := by omega
  have e2 : (6 * x + y = 6 * v + u) ↔ (x = v ∧ y = u) := by omega
  rw [decide_eq_decide.2 e1, decide_eq_decide.2 e2]
theorem ae_nb {E u v x : Nat} (hu : u < 6) (hv : v < 6) (hx : x < 6) : nb (ae E u v) x = (nb E x ||| (if x = u then 1 <<< v else 0)) ||| (if x = v then 1 <<< u else 0) := by
  refine bit_ext fun j => ?_
  rw [nb_bit, Nat.testBit_or, Nat.testBit_or, nb_bit]
  by_cases hj : j < 6
  · rw [decide_eq_true hj, Bool.true_and, Bool.true_and, ae_ad hu hv hj, Bool.or_assoc]
    congr 1
    congr 1
    · by_cases q : x = u
      · rw [if_pos q, one_shl_bit]; exact decide_eq_decide.2 ⟨fun h => h.2, fun h => ⟨q, h⟩⟩
      · rw [if_neg q, Nat.zero_testBit]; exact decide_eq_false fun h => q h.1
    · by_cases q : x = v
      · rw [if_pos q, one_shl_bit]; exact decide_eq_decide.2 ⟨fun h => h.2, fun h => ⟨q, h⟩⟩
      · rw [if_neg q, Nat.zero_testBit]; exact decide_eq_false fun h => q h.1
  · rw [decide_eq_false hj, Bool.false_and, Bool.false_and, Bool.false_or]
    have a : (if x = u then 1 <<< v else 0).testBit j = false := by
      split
      · rw [one_shl_bit]; exact decide_eq_false (by omega)
      · exact Nat.zero_testBit _
    have c : (if x = v then 1 <<< u else 0).testBit j = false := by
      split
      · rw [one_shl_bit]; exact decide_eq_false (by omega)
      · exact Nat.zero_testBit _
    rw [a, c]; rfl
theorem Gr.ae (hG : Gr n E) {u v : Nat} (hu : u < n) (hv : v < n) (hne : ¬ u = v) : Gr n (ae E u v) := by
  have hn := hG.2.1
  refine ⟨hG.1, hn, fun x y hy h => ?_⟩
  rw [ae_ad (by omega) (by omega) hy, Bool.or_eq_true, Bool.or_eq_true, decide_eq_true_eq, decide_eq_true_eq] at h
  rcases h with h | ⟨rfl, rfl⟩ | ⟨rfl, rfl⟩
  · obtain ⟨a, b, c, d⟩ := hG.2.2 x y hy h
    refine ⟨a, b, c, ?_⟩
    rw [ae_ad (by omega) (by omega) (by omega), d]
    rfl
  · refine ⟨hu, hv, hne, ?_⟩
    rw [ae_ad (by omega) (by omega) (by omega), decide_eq_true (p := y = y ∧ x = x) ⟨rfl, rfl⟩, Bool.or_true, Bool.or_true]
  · refine ⟨hv, hu, fun z => hne z.symm, ?_⟩
    rw [ae_ad (by omega) (by omega) (by omega), decide_eq_true (p := y = y ∧ x = x) ⟨rfl, rfl⟩, Bool.true_or, Bool.or_true]
theorem l_or (a b : Nat) : lN a ||| lN b = lN (a ||| b) := by
  apply Int64.toBitVec_inj.1
  show BitVec.ofNat 64 a ||| BitVec.ofNat 64 b = BitVec.ofNat 64 (a ||| b)
  apply BitVec.eq_of_getLsbD_eq
  intro i hi
  simp [hi]
theorem bd_edges (B : Bd) (x : Int64) : ∃ y, B.w_edges x = y ∧ y.edges = x ∧ y.vertices = B.vertices ∧ y.pile = B.pile ∧ y.moveCount = B.moveCount ∧ y.strategyCount = B.strategyCount ∧ y.targets = B.targets ∧ y.weights = B.weights ∧ y.parents = B.parents := ⟨_, rfl, rfl, rfl, rfl, rfl, rfl, rfl, rfl, rfl⟩
/-- the class lays an edge -/
theorem c4 {B : Bd} (hB : CB n E B) {u v : Nat} (hu : u < 6) (hv : v < 6) : ∃ B', F_4 B (nI u) (nI v) = some B' ∧ CB n (ae E u v) B' ∧ B'.pile = B.pile ∧ B'.moveCount = B.moveCount ∧ B'.strategyCount = B.strategyCount ∧ B'.targets = B.targets ∧ B'.weights = B.weights ∧ B'.parents = B.parents := by
  obtain ⟨y, hy, a1, a2, a3⟩ := bd_edges B (lN (ae E u v))
  refine ⟨y, ?_, ⟨a2.trans hB.1, a1⟩, a3⟩
  unfold F_4
  rw [c3 hu hv, Option.bind_some, hB.2, l_or]
  show (some (B.w_edges (lN (ae E u v)))).bind _ = _
  rw [hy]
  rfl
theorem md_read (M : Md) (x : Nat → Int32) : ∃ y, M.w_read x = y ∧ y.at = M.at ∧ y.from_ = M.from_ ∧ y.kind = M.kind ∧ y.number = M.number ∧ y.read = x ∧ y.wrong = M.wrong ∧ MF M y := ⟨_, rfl, rfl, rfl, rfl, rfl, rfl, rfl, rfl, rfl, rfl, rfl, rfl, rfl, rfl, rfl, rfl⟩
/-- the model lays an edge -/
theorem m151 (hM : MR n E M.read) {u v : Nat} (hu : u < 6) (hv : v < 6) (hne : ¬ u = v) : ∃ M', F_151 M (nI u) (nI v) = some M' ∧ MR n (ae E u v) M'.read ∧ (∀ j, 7 ≤ j → M'.read j = M.read j) ∧ M'.at = M.at ∧ M'.from_ = M.from_ ∧ M'.kind = M.kind ∧ M'.number = M.number ∧ M'.wrong = M.wrong ∧ MF M M' := by
  obtain ⟨X, hX, x1, x2, x3, x4, x5, x6, x7⟩ := md_read M (upd M.read (1 + u) (nI (nb E u ||| 1 <<< v)))
  obtain ⟨Y, hY, y1, y2, y3, y4, y5, y6, y7⟩ := md_read X (upd X.read (1 + v) (nI (nb E v ||| 1 <<< u)))
  have r1 : X.read (1 + v) = nI (nb E v) := by rw [x5, pk_un (by omega)]; exact hM.2 v hv
  refine ⟨Y, ?_, ⟨?_, fun w hw => ?_⟩, fun j hj => ?_, y1.trans x1, y2.trans x2, y3.trans x3, y4.trans x4, y6.trans x6, x7.tr y7⟩
  · unfold F_151
    rw [i1a, ixn (by omega) (by decide), Option.bind_some, hM.2 u hu, z1, shl_n 1 (by omega), fa_or, hX, Option.bind_some, ← z1, i1a, ixn (by omega) (by decide), Option.bind_some, r1, z1, shl_n 1 (by omega), fa_or, hY]
    rfl
  · rw [y5, pk_un (by omega), x5, pk_un (by omega)]; exact hM.1
  · rw [y5, ae_nb hu hv hw]
    by_cases q : w = v
    · subst q
      rw [pk_us, if_neg (fun z => hne z.symm), if_pos rfl, Nat.or_zero]
    · rw [pk_un (by omega), x5, if_neg q, Nat.or_zero]
      by_cases q2 : w = u
      · subst q2; rw [pk_us, if_pos rfl]
      · rw [pk_un (by omega), if_neg q2, Nat.or_zero]; exact hM.2 w hw
  · rw [y5, pk_un (by omega), x5, pk_un (by omega)]
end PARSE
