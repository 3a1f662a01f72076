/-! ===== PUT, TAKE, MOVE ===== -/
section PTM
variable {k : Nat} {W : Wd}
theorem SQ.pl {n E sc : Nat} {pl pl' tg : Nat → Nat} {wt : Nat → Nat → Nat} {pr : Nat → Nat → Option Nat} {B D : Bd} {R R' : Nat → Int32} (h : SQ n E pl sc tg wt pr B R) (h1 : D.vertices = B.vertices) (h2 : D.edges = B.edges) (h3 : D.distances = B.distances) (h4 : D.strategyCount = B.strategyCount) (h5 : D.targets = B.targets) (h6 : D.weights = B.weights) (h7 : D.parents = B.parents) (h8 : CP pl' D) (h9 : MP pl' R') (h10 : ∀ j, (j < 7 ∨ 14 ≤ j) → R' j = R j) (h11 : R' 13 = D.moveCount) (h12 : ∀ v, v < 6 → pl' v ≤ 999) : SP D R' := by
  obtain ⟨a1, a2, a3, a4, a5, a6, a7, a8, a9, a10, a11, a12⟩ := h
  refine ⟨n, E, pl', sc, tg, wt, pr, ⟨h1.trans a1.1, h2.trans a1.2⟩, h8, ⟨h4.trans a3.1, fun k hk => by rw [h5, h6, h7]; exact a3.2 k hk⟩, fun u v hu hv => by rw [h3]; exact a4 u v hu hv, ⟨by rw [h10 _ (by omega)]; exact a5.1, fun v hv => by rw [h10 _ (by omega)]; exact a5.2 v hv⟩, h9, ⟨by rw [h10 _ (by omega)]; exact a7.1, fun k hk => ⟨by rw [h10 _ (by omega)]; exact (a7.2 k hk).1, fun v hv => ⟨by rw [h10 _ (by omega)]; exact ((a7.2 k hk).2 v hv).1, by rw [h10 _ (by omega)]; exact ((a7.2 k hk).2 v hv).2⟩⟩⟩, h11, a9, a10, a11, h12⟩
theorem bd_pl (B : Bd) (f : Nat → Int32) : ∃ y, B.w_pile f = y ∧ y.vertices = B.vertices ∧ y.edges = B.edges ∧ y.distances = B.distances ∧ y.strategyCount = B.strategyCount ∧ y.targets = B.targets ∧ y.weights = B.weights ∧ y.parents = B.parents ∧ y.pile = f ∧ y.moveCount = B.moveCount := ⟨_, rfl, rfl, rfl, rfl, rfl, rfl, rfl, rfl, rfl, rfl⟩
theorem bd_pm (B : Bd) (f : Nat → Int32) (m : Int32) : ∃ y, (B.w_pile f).w_moveCount m = y ∧ y.vertices = B.vertices ∧ y.edges = B.edges ∧ y.distances = B.distances ∧ y.strategyCount = B.strategyCount ∧ y.targets = B.targets ∧ y.weights = B.weights ∧ y.parents = B.parents ∧ y.pile = f ∧ y.moveCount = m := ⟨_, rfl, rfl, rfl, rfl, rfl, rfl, rfl, rfl, rfl, rfl⟩
theorem in_99 {z : Int32} (h : 1 ≤ z ∧ z ≤ 99) : ∃ a, 1 ≤ a ∧ a ≤ 99 ∧ z = nI a := by
  have h0 : (0 : Int32) ≤ z := Int32.le_trans (by decide) h.1
  obtain ⟨a, ha, rfl⟩ := le_nI (m := 99) (by decide) h0 h.2
  refine ⟨a, ?_, ha, rfl⟩
  rcases Nat.eq_zero_or_pos a with rfl | q
  · exact absurd h.1 (by decide)
  · exact q
/-- one number of the model's pile changed -/
theorem up_pl {M : Md} {pl : Nat → Nat} {v a : Nat} (rP : MP pl M.now) (hv : v < 6) : ∃ M', M.w_now (upd M.now (7 + v) (nI a)) = M' ∧ MP (fun w => if w = v then a else pl w) M'.now ∧ (∀ j, (j < 7 ∨ 13 ≤ j) → M'.now j = M.now j) ∧ MN M M' ∧ M'.thrown = M.thrown := by
  obtain ⟨X, hX, x1, x2, x3, x4, x5, x6, x7, x8, x9⟩ := md_now M (upd M.now (7 + v) (nI a))
  refine ⟨X, hX, fun w hw => ?_, fun j hj => by rw [x1, pk_un (by omega)], ⟨x3, x4, x5, x6, x7, x8, x9⟩, x2⟩
  rw [x1]
  show _ = nI (if w = v then a else pl w)
  by_cases q : w = v
  · subst q; rw [pk_us, if_pos rfl]
  · rw [pk_un (by omega), if_neg q]; exact rP w hw
theorem up_cp {B : Bd} {pl : Nat → Nat} {v a : Nat} (qP : CP pl B) (hv : v < 6) : ∃ D, B.w_pile (upd B.pile v (nI a)) = D ∧ CP (fun w => if w = v then a else pl w) D ∧ D.vertices = B.vertices ∧ D.edges = B.edges ∧ D.distances = B.distances ∧ D.strategyCount = B.strategyCount ∧ D.targets = B.targets ∧ D.weights = B.weights ∧ D.parents = B.parents ∧ D.moveCount = B.moveCount := by
  obtain ⟨D, hD, d1, d2, d3, d4, d5, d6, d7, d8, d9⟩ := bd_pl B (upd B.pile v (nI a))
  refine ⟨D, hD, fun w hw => ?_, d1, d2, d3, d4, d5, d6, d7, d9⟩
  rw [d8]
  show _ = nI (if w = v then a else pl w)
  by_cases q : w = v
  · subst q; rw [pk_us, if_pos rfl]
  · rw [pk_un q, if_neg q]; exact qP w hw
theorem op6 (h : Sim k W) (hk : k < 90000) (x z : Int32) : Ans k (F_268 W x z) (fun M => F_188 M x z) := by
  obtain ⟨y, hy, y1, y2⟩ := md_thrown W.md 0
  obtain ⟨n, E, pl, sc, tg, wt, pr, ⟨qB, qP, qS, qD, rM, rP, rS, r13, hG, hC, hO, h9⟩, hol, hfc, hd⟩ := h.op y2
  have hn := hG.2.1
  have h1 := hG.1
  have hE := hG.E_lt
  have h31 : ∀ v, v < 6 → pl v < 2 ^ 31 := fun v hv => by have := h9 v hv; omega
  have sq : SQ n E pl sc tg wt pr W.board y.now := ⟨qB, qP, qS, qD, rM, rP, rS, r13, hG, hC, hO, h9⟩
  have e172 : F_172 y x = some (bI (isv n x)) := m172 rM.1 (by omega) (by omega) x
  cases hv : isv n x with
  | true =>
    obtain ⟨v, hv', rfl⟩ := isv_of (by omega) hv
    rw [hv] at e172
    have h9v := h9 v (by omega)
    have e134 : F_134 z.toInt64 1 (99 : Int64) = some (bI (decide (1 ≤ z ∧ z ≤ 99))) := m134 z 1 99
    have hm0 : F_188 W.md (nI v) z = (if bI (decide (1 ≤ z ∧ z ≤ 99)) = 0 then J_188_0_j48 y (nI v) z else (F_176 y (nI v)).bind fun v25 => if 999 < (v25 + z) then J_188_0_j48 y (nI v) z else J_188_0_j49 y (nI v) z 1) := by
      unfold F_188
      rw [hy, Option.bind_some, e172, Option.bind_some, m135t, Option.bind_some]
      dsimp only
      rw [if_neg (show ¬ ¬ (0 : Int32) = 0 from fun z => z rfl), e134, Option.bind_some]
    have hc0 : F_86 W (nI v) z = (if z < 1 then J_86_0_j33 W else if 99 < z then J_86_0_j33 W else (ix (nI v) 6).bind fun i8 => if ((W.board.pile i8) + z) ≤ 999 then (F_50 W).bind fun B12 => (some (B12.board.w_pile (upd B12.board.pile i8 ((B12.board.pile i8) + z)))).bind fun o13 => (some (B12.w_board o13)).bind fun B15 => some (.inl (B15.board.pile i8), B15) else J_86_0_j33 W) := by
      unfold F_86
      rw [c124t qB (by omega) hv', Option.bind_some]
      rfl
    have bad : F_86 W (nI v) z = some (.inr 1, W.thr) → F_188 W.md (nI v) z = J_188_0_j48 y (nI v) z → Ans k (F_268 W (nI v) z) (fun M => F_188 M (nI v) z) := by
      intro e1 e2
      refine ans_no (v := 2) (B := W.thr) (u := 0) (o := y.w_thrown 2) (by decide) ?_ (e2.trans rfl) rfl (h.ex y2 2)
      unfold F_268
      rw [e1]
      rfl
    by_cases hz : 1 ≤ z ∧ z ≤ 99
    · obtain ⟨a, ha1, ha, rfl⟩ := in_99 hz
      rw [decide_eq_true hz, if_neg (by decide), m176 rP (by omega), Option.bind_some, nI_add] at hm0
      rw [if_neg (by rw [Int32.not_lt]; exact hz.1), if_neg (by rw [Int32.not_lt]; exact hz.2), ixn (by omega) (by decide), Option.bind_some, qP v (by omega), nI_add] at hc0
      by_cases hs : pl v + a ≤ 999
      · rw [if_neg (show ¬ (999 : Int32) < nI (pl v + a) from nI_nlt (a := 999) (b := pl v + a) hs (by decide))] at hm0
        rw [if_pos (show nI (pl v + a) ≤ (999 : Int32) from nI_le (b := 999) hs (by decide))] at hc0
        obtain ⟨V1, M1, k1, k2, k3, k4, k5, k6, k7, k8⟩ := h.kept hk (RG.rf hol hfc) (by decide) y2
        have vP : CP pl V1.board := by rw [k3]; exact qP
        have rP1 : MP pl M1.now := by rw [k5]; exact rP
        obtain ⟨D, hD, d8, d1, d2, d3, d4, d5, d6, d7, d9⟩ := up_cp (a := pl v + a) vP (show v < 6 by omega)
        obtain ⟨M', hM', n1, n2, n3, n4⟩ := up_pl (a := pl v + a) rP1 (show v < 6 by omega)
        have hsp : SP D M'.now := sq.pl (d1.trans (by rw [k3])) (d2.trans (by rw [k3])) (d3.trans (by rw [k3])) (d4.trans (by rw [k3])) (d5.trans (by rw [k3])) (d6.trans (by rw [k3])) (d7.trans (by rw [k3])) d8 n1 (fun j hj => by rw [n2 j (by omega), k5]) (by rw [n2 13 (by omega), k5, r13, d9, k3]) (fun w hw => by
          show (if w = v then _ else pl w) ≤ 999
          split
          · omega
          · exact h9 w hw)
        have dv : D.pile v = nI (pl v + a) := (d8 v (by omega)).trans (by show nI (if v = v then _ else pl v) = _; rw [if_pos rfl])
        have nv : M'.now (7 + v) = nI (pl v + a) := (n1 v (by omega)).trans (by show nI (if v = v then _ else pl v) = _; rw [if_pos rfl])
        refine ans_ok (B := V1.w_board D) (u := nI (pl v + a)) (o := M') ?_ ?_ (n4.trans (k6.trans y1)) (k8 D M' n3 hsp)
        · have e : F_86 W (nI v) (nI a) = some (.inl (nI (pl v + a)), V1.w_board D) := by
            rw [hc0, k1, Option.bind_some, vP v (by omega), nI_add, hD, Option.bind_some, Option.bind_some]
            show some (Sum.inl (D.pile v), V1.w_board D) = _
            rw [dv]
          unfold F_268
          rw [e]
          rfl
        · rw [show (V1.w_board D).md = V1.md from rfl, k4]
          show F_188 W.md (nI v) (nI a) = _
          rw [hm0]
          unfold J_188_0_j49
          rw [show F_135 y 1 2 = some (0, y) from rfl, Option.bind_some]
          dsimp only
          rw [if_pos rfl, k2, Option.bind_some, i7a, ixn (by omega) (by decide), Option.bind_some, rP1 v (by omega), nI_add, hM', Option.bind_some, m176 n1 (by omega), Option.bind_some]
          show some (nI (if v = v then pl v + a else pl v), M') = _
          rw [if_pos rfl]
      · rw [if_pos (show (999 : Int32) < nI (pl v + a) from nI_lt (a := 999) (by omega) (by omega))] at hm0
        rw [if_neg (show ¬ nI (pl v + a) ≤ (999 : Int32) from nI_ge (a := 999) (by omega) (by omega))] at hc0
        exact bad hc0 hm0
    · rw [decide_eq_false hz, if_pos (by decide)] at hm0
      refine bad ?_ hm0
      rw [hc0]
      by_cases h0 : z < 1
      · rw [if_pos h0]
        rfl
      · rw [if_neg h0, if_pos (show 99 < z from by
          rw [← Int32.not_le]
          exact fun q => hz ⟨by rw [← Int32.not_lt]; exact h0, q⟩)]
        rfl
  | false =>
    rw [hv] at e172
    refine ans_no (v := 1) (B := W.thr) (u := 0) (o := y.w_thrown 1) (by decide) ?_ ?_ rfl (h.ex y2 1)
    · unfold F_268 F_86
      rw [c124f qB (by omega) hv]
      rfl
    · show F_188 W.md x z = _
      unfold F_188
      rw [hy, Option.bind_some, e172, Option.bind_some, m135f]
      rfl
theorem op7 (h : Sim k W) (hk : k < 90000) (x z : Int32) : Ans k (F_269 W x z) (fun M => F_189 M x z) := by
  obtain ⟨y, hy, y1, y2⟩ := md_thrown W.md 0
  obtain ⟨n, E, pl, sc, tg, wt, pr, ⟨qB, qP, qS, qD, rM, rP, rS, r13, hG, hC, hO, h9⟩, hol, hfc, hd⟩ := h.op y2
  have hn := hG.2.1
  have h1 := hG.1
  have hE := hG.E_lt
  have h31 : ∀ v, v < 6 → pl v < 2 ^ 31 := fun v hv => by have := h9 v hv; omega
  have sq : SQ n E pl sc tg wt pr W.board y.now := ⟨qB, qP, qS, qD, rM, rP, rS, r13, hG, hC, hO, h9⟩
  have e172 : F_172 y x = some (bI (isv n x)) := m172 rM.1 (by omega) (by omega) x
  cases hv : isv n x with
  | true =>
    obtain ⟨v, hv', rfl⟩ := isv_of (by omega) hv
    rw [hv] at e172
    have h9v := h9 v (by omega)
    have e134 : F_134 z.toInt64 1 (99 : Int64) = some (bI (decide (1 ≤ z ∧ z ≤ 99))) := m134 z 1 99
    have hc0 : F_87 W (nI v) z = (if z < 1 then J_87_0_j16 W else if z ≤ 99 then (ix (nI v) 6).bind fun i8 => if z ≤ (W.board.pile i8) then J_87_0_j44 W (nI v) z else (F_128 W 5).bind fun (r20, B21) => xq r20 (fun X22 => some (.inr X22, B21)) fun u23 => J_87_0_j44 B21 (nI v) z else J_87_0_j16 W) := by
      unfold F_87
      rw [c124t qB (by omega) hv', Option.bind_some]
      rfl
    by_cases hz : 1 ≤ z ∧ z ≤ 99
    · obtain ⟨a, ha1, ha, rfl⟩ := in_99 hz
      rw [decide_eq_true hz] at e134
      have hm0 : F_189 W.md (nI v) (nI a) = (if nI a ≤ nI (pl v) then J_189_0_j50 y (nI v) (nI a) 0 else J_189_0_j50 y (nI v) (nI a) 1) := by
        unfold F_189
        rw [hy, Option.bind_some, e172, Option.bind_some, m135t, Option.bind_some]
        dsimp only
        rw [if_neg (show ¬ ¬ (0 : Int32) = 0 from fun z => z rfl), e134, Option.bind_some, m135t, Option.bind_some]
        dsimp only
        rw [if_neg (show ¬ ¬ (0 : Int32) = 0 from fun z => z rfl), m176 rP (by omega), Option.bind_some]
      rw [if_neg (by rw [Int32.not_lt]; exact hz.1), if_pos hz.2, ixn (by omega) (by decide), Option.bind_some, qP v (by omega)] at hc0
      by_cases hs : a ≤ pl v
      · rw [if_pos (nI_le hs (by omega))] at hm0 hc0
        obtain ⟨V1, M1, k1, k2, k3, k4, k5, k6, k7, k8⟩ := h.kept hk (RG.rf hol hfc) (by decide) y2
        have vP : CP pl V1.board := by rw [k3]; exact qP
        have rP1 : MP pl M1.now := by rw [k5]; exact rP
        obtain ⟨D, hD, d8, d1, d2, d3, d4, d5, d6, d7, d9⟩ := up_cp (a := pl v - a) vP (show v < 6 by omega)
        obtain ⟨M', hM', n1, n2, n3, n4⟩ := up_pl (a := pl v - a) rP1 (show v < 6 by omega)
        have hsp : SP D M'.now := sq.pl (d1.trans (by rw [k3])) (d2.trans (by rw [k3])) (d3.trans (by rw [k3])) (d4.trans (by rw [k3])) (d5.trans (by rw [k3])) (d6.trans (by rw [k3])) (d7.trans (by rw [k3])) d8 n1 (fun j hj => by rw [n2 j (by omega), k5]) (by rw [n2 13 (by omega), k5, r13, d9, k3]) (fun w hw => by
          show (if w = v then _ else pl w) ≤ 999
          split
          · omega
          · exact h9 w hw)
        have dv : D.pile v = nI (pl v - a) := (d8 v (by omega)).trans (by show nI (if v = v then _ else pl v) = _; rw [if_pos rfl])
        have nv : M'.now (7 + v) = nI (pl v - a) := (n1 v (by omega)).trans (by show nI (if v = v then _ else pl v) = _; rw [if_pos rfl])
        refine ans_ok (B := V1.w_board D) (u := nI (pl v - a)) (o := M') ?_ ?_ (n4.trans (k6.trans y1)) (k8 D M' n3 hsp)
        · have e : F_87 W (nI v) (nI a) = some (.inl (nI (pl v - a)), V1.w_board D) := by
            rw [hc0]
            unfold J_87_0_j44
            rw [k1, Option.bind_some, ixn (by omega) (by decide), Option.bind_some, vP v (by omega), pk_sub hs, hD, Option.bind_some, Option.bind_some]
            show some (Sum.inl (D.pile v), V1.w_board D) = _
            rw [dv]
          unfold F_269
          rw [e]
          rfl
        · rw [show (V1.w_board D).md = V1.md from rfl, k4]
          show F_189 W.md (nI v) (nI a) = _
          rw [hm0]
          unfold J_189_0_j50
          rw [m180f, Option.bind_some]
          dsimp only
          rw [if_pos rfl, k2, Option.bind_some, i7a, ixn (by omega) (by decide), Option.bind_some, rP1 v (by omega), pk_sub hs, hM', Option.bind_some, m176 n1 (by omega), Option.bind_some]
          show some (nI (if v = v then pl v - a else pl v), M') = _
          rw [if_pos rfl]
      · rw [if_neg (nI_ge (by omega) (by omega))] at hm0 hc0
        refine ans_no (v := 3) (B := (W.w_pp (W.pp.w_refusal 5)).thr) (u := 0) (o := (y.w_reason 5).w_thrown 3) (by decide) ?_ ?_ rfl (h.ref (RG.rf hol hfc) (by decide) y2 5 3)
        · unfold F_269
          rw [hc0, refuse]
          rfl
        · show F_189 W.md (nI v) (nI a) = _
          rw [hm0]
          rfl
    · rw [decide_eq_false hz] at e134
      refine ans_no (v := 2) (B := W.thr) (u := 0) (o := y.w_thrown 2) (by decide) ?_ ?_ rfl (h.ex y2 2)
      · have e : F_87 W (nI v) z = some (.inr 1, W.thr) := by
          rw [hc0]
          by_cases h0 : z < 1
          · rw [if_pos h0]
            rfl
          · rw [if_neg h0, if_neg (fun q => hz ⟨by rw [← Int32.not_lt]; exact h0, q⟩)]
            rfl
        unfold F_269
        rw [e]
        rfl
      · show F_189 W.md (nI v) z = _
        unfold F_189
        rw [hy, Option.bind_some, e172, Option.bind_some, m135t, Option.bind_some]
        dsimp only
        rw [if_neg (show ¬ ¬ (0 : Int32) = 0 from fun z => z rfl), e134, Option.bind_some, m135f]
        rfl
  | false =>
    rw [hv] at e172
    refine ans_no (v := 1) (B := W.thr) (u := 0) (o := y.w_thrown 1) (by decide) ?_ ?_ rfl (h.ex y2 1)
    · unfold F_269 F_87
      rw [c124f qB (by omega) hv]
      rfl
    · show F_189 W.md x z = _
      unfold F_189
      rw [hy, Option.bind_some, e172, Option.bind_some, m135f]
      rfl
theorem m190 {M : Md} {pl : Nat → Nat} {u v : Nat} (rP : MP pl M.now) (hu : u < 6) (hv : v < 6) (hne : ¬ u = v) (h2 : 2 ≤ pl u) : ∃ M', F_190 M (nI u) (nI v) = some M' ∧ MP (pmv pl u v) M'.now ∧ (∀ j, (j < 7 ∨ 14 ≤ j) → M'.now j = M.now j) ∧ M'.now 13 = M.now 13 + 1 ∧ MN M M' ∧ M'.thrown = M.thrown := by
  obtain ⟨X, hX, x1, x2, x3, x4, x5, x6, x7, x8, x9⟩ := md_now M (upd M.now (7 + u) (nI (pl u - 2)))
  obtain ⟨Y, hY, y1, y2, y3, y4, y5, y6, y7, y8, y9⟩ := md_now X (upd X.now (7 + v) (nI (pl v + 1)))
  obtain ⟨Z, hZ, z1', z2', z3', z4', z5', z6', z7', z8', z9'⟩ := md_now Y (upd Y.now 13 (Y.now 13 + 1))
  have e1 : X.now (7 + v) = nI (pl v) := by rw [x1, pk_un (by omega)]; exact rP v hv
  refine ⟨Z, ?_, fun w hw => ?_, fun j hj => ?_, ?_, ⟨z3'.trans (y3.trans x3), z4'.trans (y4.trans x4), z5'.trans (y5.trans x5), z6'.trans (y6.trans x6), z7'.trans (y7.trans x7), z8'.trans (y8.trans x8), z9'.trans (y9.trans x9)⟩, z2'.trans (y2.trans x2)⟩
  · unfold F_190
    rw [i7a, ixn (by omega) (by decide), Option.bind_some, rP u hu, show (2 : Int32) = nI 2 from rfl, pk_sub h2, hX, Option.bind_some, i7a, ixn (by omega) (by decide), Option.bind_some, e1, show nI (pl v) + 1 = nI (pl v + 1) from nI_1 _, hY, Option.bind_some, show ix 13 93 = some 13 from rfl, Option.bind_some, hZ]
    rfl
  · rw [z1', pk_un (by omega), y1]
    unfold pmv
    by_cases q : w = v
    · subst q
      rw [pk_us, if_pos rfl, if_neg (fun z => hne z.symm)]
    · rw [pk_un (by omega), x1, if_neg q]
      by_cases r : w = u
      · subst r; rw [pk_us, if_pos rfl]
      · rw [pk_un (by omega), if_neg r]; exact rP w hw
  · rw [z1', pk_un (by omega), y1, pk_un (by omega), x1, pk_un (by omega)]
  · rw [z1', pk_us, y1, pk_un (by omega), x1, pk_un (by omega)]
theorem pmv_le {pl : Nat → Nat} {u v : Nat} (h9 : ∀ v, v < 6 → pl v ≤ 999) (hu : u < 6) (hv : pl v < 999) (hne : ¬ u = v) : ∀ w, w < 6 → pmv pl u v w ≤ 999 := by
  intro w hw
  unfold pmv
  have := h9 u hu
  have := h9 w hw
  rw [if_neg (fun z : v = u => hne z.symm)]
  split
  · omega
  · split <;> omega
theorem op8 (h : Sim k W) (hk : k < 90000) (x z : Int32) : Ans k (F_270 W x z) (fun M => F_193 M x z) := by
  obtain ⟨y, hy, y1, y2⟩ := md_thrown W.md 0
  obtain ⟨n, E, pl, sc, tg, wt, pr, ⟨qB, qP, qS, qD, rM, rP, rS, r13, hG, hC, hO, h9⟩, hol, hfc, hd⟩ := h.op y2
  have hn := hG.2.1
  have h1 := hG.1
  have hE := hG.E_lt
  have h31 : ∀ v, v < 6 → pl v < 2 ^ 31 := fun v hv => by have := h9 v hv; omega
  have sq : SQ n E pl sc tg wt pr W.board y.now := ⟨qB, qP, qS, qD, rM, rP, rS, r13, hG, hC, hO, h9⟩
  have e173 : F_173 y x z = some (bI (isv n x && isv n z)) := m173 rM.1 (by omega) (by omega) x z
  cases hv : isv n x && isv n z with
  | true =>
    obtain ⟨hx1, hx2⟩ := (Bool.and_eq_true _ _).mp hv
    obtain ⟨u, hu, rfl⟩ := isv_of (by omega) hx1
    obtain ⟨v, hv', rfl⟩ := isv_of (by omega) hx2
    rw [hv] at e173
    have h9v := h9 v (by omega)
    have h9u := h9 u (by omega)
    have hm0 : F_193 W.md (nI u) (nI v) = (if ¬ bI (ad E u v) = 0 then J_193_0_j34 y (nI u) (nI v) 0 else J_193_0_j34 y (nI u) (nI v) 1) := by
      unfold F_193
      rw [hy, Option.bind_some, e173, Option.bind_some, m135t, Option.bind_some]
      dsimp only
      rw [if_neg (show ¬ ¬ (0 : Int32) = 0 from fun z => z rfl), m175 rM (by omega) (by omega), Option.bind_some]
    have hc0 : F_88 W (nI u) (nI v) = (if ¬ bI (ad E u v) = 0 then J_88_0_j27 W (nI u) (nI v) else (F_128 W 4).bind fun (r39, B40) => xq r39 (fun X41 => some (.inr X41, B40)) fun u42 => J_88_0_j27 B40 (nI u) (nI v)) := by
      unfold F_88
      rw [c124t qB (by omega) hu, Option.bind_some]
      dsimp only
      rw [xq_l, c124t qB (by omega) hv', Option.bind_some]
      dsimp only
      rw [xq_l, c6 qB hE (by omega) (by omega), Option.bind_some]
    have bad : ∀ r : Int32, F_88 W (nI u) (nI v) = some (.inr 0, (W.w_pp (W.pp.w_refusal r)).thr) → F_193 W.md (nI u) (nI v) = some (0, (y.w_reason r).w_thrown 2) → Ans k (F_270 W (nI u) (nI v)) (fun M => F_193 M (nI u) (nI v)) := by
      intro r e1 e2
      refine ans_no (v := 2) (B := (W.w_pp (W.pp.w_refusal r)).thr) (u := 0) (o := (y.w_reason r).w_thrown 2) (by decide) ?_ e2 rfl (h.ref (RG.rf hol hfc) (by decide) y2 r 2)
      unfold F_270
      rw [e1]
      rfl
    cases had : ad E u v with
    | false =>
      rw [had, if_neg (by decide)] at hm0 hc0
      exact bad 4 (by rw [hc0, refuse]; rfl) (by rw [hm0]; rfl)
    | true =>
      rw [had, if_pos (by decide)] at hm0 hc0
      have hne : ¬ u = v := (hG.2.2 u v (by omega) had).2.2.1
      have hc1 : F_88 W (nI u) (nI v) = (if (2 : Int32) ≤ nI (pl u) then J_88_0_j45 W (nI u) (nI v) else (F_128 W 5).bind fun (r34, B35) => xq r34 (fun X36 => some (.inr X36, B35)) fun u37 => J_88_0_j45 B35 (nI u) (nI v)) := by
        rw [hc0]
        unfold J_88_0_j27
        rw [ixn (by omega) (by decide), Option.bind_some, qP u (by omega)]
      have hm1 : F_193 W.md (nI u) (nI v) = (if (2 : Int32) ≤ nI (pl u) then J_193_0_j59 y (nI u) (nI v) 0 else J_193_0_j59 y (nI u) (nI v) 1) := by
        rw [hm0]
        unfold J_193_0_j34
        rw [m180f, Option.bind_some]
        dsimp only
        rw [if_pos rfl, m176 rP (by omega), Option.bind_some]
      by_cases h2 : 2 ≤ pl u
      · rw [if_pos (show (2 : Int32) ≤ nI (pl u) from nI_le (a := 2) h2 (by omega))] at hm1 hc1
        have hm2 : F_193 W.md (nI u) (nI v) = (if ¬ nI (pl v) = 999 then J_193_0_j84 y (nI u) (nI v) 0 else J_193_0_j84 y (nI u) (nI v) 1) := by
          rw [hm1]
          unfold J_193_0_j59
          rw [m180f, Option.bind_some]
          dsimp only
          rw [if_neg (show ¬ ¬ (0 : Int32) = 0 from fun z => z rfl), m176 rP (by omega), Option.bind_some]
        have hc2 : F_88 W (nI u) (nI v) = (if nI (pl v) < 999 then J_88_0_j66 W (nI u) (nI v) else (F_128 W 6).bind fun (r29, B30) => xq r29 (fun X31 => some (.inr X31, B30)) fun u32 => J_88_0_j66 B30 (nI u) (nI v)) := by
          rw [hc1]
          unfold J_88_0_j45
          rw [ixn (by omega) (by decide), Option.bind_some, qP v (by omega)]
        by_cases h99 : pl v < 999
        · rw [if_pos (show ¬ nI (pl v) = (999 : Int32) by rw [show (999 : Int32) = nI 999 from rfl, nI_eq (by omega) (by decide)]; omega)] at hm2
          rw [if_pos (show nI (pl v) < (999 : Int32) from nI_lt (b := 999) h99 (by decide))] at hc2
          obtain ⟨V1, M1, k1, k2, k3, k4, k5, k6, k7, k8⟩ := h.kept hk (RG.rf hol hfc) (by decide) y2
          have vP : CP pl V1.board := by rw [k3]; exact qP
          have rP1 : MP pl M1.now := by rw [k5]; exact rP
          obtain ⟨f, f1, f2⟩ := c24 vP (u := u) (v := v) (by omega) (by omega) h2
          obtain ⟨D, hD, d1, d2, d3, d4, d5, d6, d7, d8, d9⟩ := bd_pm V1.board f (V1.board.moveCount + 1)
          rw [hD] at f1
          obtain ⟨M', m1, n1, n2, n5, n3, n4⟩ := m190 rP1 (u := u) (v := v) (by omega) (by omega) hne h2
          have hsp : SP D M'.now := sq.pl (pl' := pmv pl u v) (d1.trans (by rw [k3])) (d2.trans (by rw [k3])) (d3.trans (by rw [k3])) (d4.trans (by rw [k3])) (d5.trans (by rw [k3])) (d6.trans (by rw [k3])) (d7.trans (by rw [k3])) (fun w hw => by rw [d8]; exact f2 w hw) n1 (fun j hj => by rw [n2 j hj, k5]) (by rw [n5, k5, r13, d9, k3]) (pmv_le h9 (by omega) h99 hne)
          refine ans_ok (B := V1.w_board D) (u := nI (pmv pl u v v)) (o := M') ?_ ?_ (n4.trans (k6.trans y1)) (k8 D M' n3 hsp)
          · have e : F_88 W (nI u) (nI v) = some (.inl (nI (pmv pl u v v)), V1.w_board D) := by
              rw [hc2]
              unfold J_88_0_j66
              rw [k1, Option.bind_some, f1, Option.bind_some, Option.bind_some, ixn (by omega) (by decide), Option.bind_some]
              show some (Sum.inl (D.pile v), V1.w_board D) = _
              rw [d8, f2 v (by omega)]
            unfold F_270
            rw [e]
            rfl
          · rw [show (V1.w_board D).md = V1.md from rfl, k4]
            show F_193 W.md (nI u) (nI v) = _
            rw [hm2]
            unfold J_193_0_j84
            rw [m180f, Option.bind_some]
            dsimp only
            rw [if_pos rfl, k2, Option.bind_some, m1, Option.bind_some, m176 n1 (by omega)]
            rfl
        · rw [if_neg (show ¬ ¬ nI (pl v) = (999 : Int32) from fun z => z (by rw [show pl v = 999 by omega]; rfl))] at hm2
          rw [if_neg (show ¬ nI (pl v) < (999 : Int32) from nI_nlt (a := pl v) (b := 999) (by omega) (by omega))] at hc2
          exact bad 6 (by rw [hc2, refuse]; rfl) (by rw [hm2]; rfl)
      · rw [if_neg (show ¬ (2 : Int32) ≤ nI (pl u) from nI_ge (b := 2) (by omega) (by decide))] at hm1 hc1
        exact bad 5 (by rw [hc1, refuse]; rfl) (by rw [hm1]; rfl)
  | false =>
    rw [hv] at e173
    refine ans_no (v := 1) (B := W.thr) (u := 0) (o := y.w_thrown 1) (by decide) ?_ ?_ rfl (h.ex y2 1)
    · have e : F_88 W x z = some (.inr 2, W.thr) := by
        unfold F_88
        cases hx1 : isv n x with
        | false =>
          rw [c124f qB (by omega) hx1]
          rfl
        | true =>
          obtain ⟨u, hu, rfl⟩ := isv_of (by omega) hx1
          rw [hx1, Bool.true_and] at hv
          rw [c124t qB (by omega) hu, Option.bind_some]
          dsimp only
          rw [xq_l, c124f qB (by omega) hv]
          rfl
      unfold F_270
      rw [e]
      rfl
    · show F_193 W.md x z = _
      unfold F_193
      rw [hy, Option.bind_some, e173, Option.bind_some, m135f]
      rfl
end PTM
