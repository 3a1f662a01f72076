/-! ===== STRATEGIES OPENED, CHANGED, DROPPED ===== -/
section STC
variable {k : Nat} {W : Wd}
theorem SQ.st {n E sc sc' : Nat} {pl tg tg' : Nat → Nat} {wt wt' : Nat → Nat → Nat} {pr pr' : Nat → Nat → Option Nat} {B D : Bd} {R R' : Nat → Int32} (h : SQ n E pl sc tg wt pr B R) (h1 : D.vertices = B.vertices) (h2 : D.edges = B.edges) (h3 : D.distances = B.distances) (h4 : D.pile = B.pile) (h5 : D.moveCount = B.moveCount) (h6 : CS n sc' tg' wt' pr' D) (h7 : MS n sc' tg' wt' pr' R') (h8 : ∀ j, j < 14 → R' j = R j) (h9 : SO n sc' tg' wt' pr') : SP D R' := by
  obtain ⟨a1, a2, a3, a4, a5, a6, a7, a8, a9, a10, a11, a12⟩ := h
  exact ⟨n, E, pl, sc', tg', wt', pr', ⟨h1.trans a1.1, h2.trans a1.2⟩, fun v hv => by rw [h4]; exact a2 v hv, h6, fun u v hu hv => by rw [h3]; exact a4 u v hu hv, ⟨by rw [h8 _ (by omega)]; exact a5.1, fun v hv => by rw [h8 _ (by omega)]; exact a5.2 v hv⟩, fun v hv => by rw [h8 _ (by omega)]; exact a6 v hv, h7, by rw [h8 _ (by omega), h5]; exact a8, a9, a10, h9, a12⟩
theorem bd_sb5 (B : Bd) (f g h : Nat → Int32) (c : Int32) : ∃ y, sbw B f g h c = y ∧ y.vertices = B.vertices ∧ y.edges = B.edges ∧ y.distances = B.distances ∧ y.pile = B.pile ∧ y.moveCount = B.moveCount ∧ y.strategyCount = c := ⟨_, rfl, rfl, rfl, rfl, rfl, rfl, rfl⟩
theorem bd_wp5 (B : Bd) (f g : Nat → Int32) : ∃ y, (B.w_weights f).w_parents g = y ∧ y.vertices = B.vertices ∧ y.edges = B.edges ∧ y.distances = B.distances ∧ y.pile = B.pile ∧ y.moveCount = B.moveCount := ⟨_, rfl, rfl, rfl, rfl, rfl, rfl⟩
theorem op10 (h : Sim k W) (hk : k < 90000) (x : Int32) : Ans k (F_272 W x) (fun M => F_195 M x) := by
  obtain ⟨y, hy, y1, y2⟩ := md_thrown W.md 0
  obtain ⟨n, E, pl, sc, tg, wt, pr, ⟨qB, qP, qS, qD, rM, rP, rS, r13, hG, hC, hO, h9⟩, hol, hfc, hd⟩ := h.op y2
  have hn := hG.2.1
  have h1 := hG.1
  have hE := hG.E_lt
  have h31 : ∀ v, v < 6 → pl v < 2 ^ 31 := fun v hv => by have := h9 v hv; omega
  have sq : SQ n E pl sc tg wt pr W.board y.now := ⟨qB, qP, qS, qD, rM, rP, rS, r13, hG, hC, hO, h9⟩
  have e172 : F_172 y x = some (bI (isv n x)) := m172 rM.1 (by omega) (by omega) x
  have s6 := hO.1
  cases hv : isv n x with
  | true =>
    obtain ⟨v, hv', rfl⟩ := isv_of (by omega) hv
    rw [hv] at e172
    have hm0 : F_195 W.md (nI v) = (if ¬ nI sc = 6 then J_195_0_j36 y (nI v) 0 else J_195_0_j36 y (nI v) 1) := by
      unfold F_195
      rw [hy, Option.bind_some, e172, Option.bind_some, m135t, Option.bind_some]
      dsimp only
      rw [if_neg (show ¬ ¬ (0 : Int32) = 0 from fun z => z rfl), show ix 14 93 = some 14 from rfl, Option.bind_some, rS.1]
    have hc0 : F_90 W (nI v) = (if nI sc < 6 then J_90_0_j23 W (nI v) else (F_128 W 7).bind fun (r14, B15) => xq r14 (fun X16 => some (.inr X16, B15)) fun u17 => J_90_0_j23 B15 (nI v)) := by
      unfold F_90
      rw [c124t qB (by omega) hv', Option.bind_some]
      dsimp only
      rw [xq_l, qS.1]
    by_cases hs : sc = 6
    · rw [hs, if_neg (by decide)] at hm0 hc0
      refine ans_no (v := 2) (B := (W.w_pp (W.pp.w_refusal 7)).thr) (u := 0) (o := (y.w_reason 7).w_thrown 2) (by decide) ?_ ?_ rfl (h.ref (RG.rf hol hfc) (by decide) y2 7 2)
      · unfold F_272
        rw [hc0, refuse]
        rfl
      · show F_195 W.md (nI v) = _
        rw [hm0]
        rfl
    · rw [if_pos (show ¬ nI sc = (6 : Int32) by rw [show (6 : Int32) = nI 6 from rfl, nI_eq (by omega) (by decide)]; exact hs)] at hm0
      rw [if_pos (show nI sc < (6 : Int32) from nI_lt (b := 6) (by omega) (by decide))] at hc0
      obtain ⟨V1, M1, k1, k2, k3, k4, k5, k6, k7, k8⟩ := h.kept hk (RG.rf hol hfc) (by decide) y2
      have vB : CB n E V1.board := by rw [k3]; exact qB
      have vS : CS n sc tg wt pr V1.board := by rw [k3]; exact qS
      have rS1 : MS n sc tg wt pr M1.now := by rw [k5]; exact rS
      obtain ⟨f, g, q, f1, f2, f3, f4⟩ := c25 vS (show sc < 6 by omega) v
      have cS := c25S vS hn f2 f3 f4
      obtain ⟨D, hD, d1, d2, d3, d4, d5, d6⟩ := bd_sb5 V1.board f g q (nI (sc + 1))
      rw [hD] at f1 cS
      obtain ⟨R', r1, r2, r3⟩ := m152 rS1 hn (show sc < 6 by omega) v
      obtain ⟨o, ho, e1, e2, e3, e4, e5, e6, e7, e8, e9⟩ := md_now M1 R'
      have hsp : SP D o.now := sq.st (d1.trans (by rw [k3])) (d2.trans (by rw [k3])) (d3.trans (by rw [k3])) (d4.trans (by rw [k3])) (d5.trans (by rw [k3])) cS (by rw [e1]; exact r3) (fun j hj => by rw [e1, r2 j hj, k5]) (oSO hO (by omega) hv')
      refine ans_ok (B := V1.w_board D) (u := nI sc) (o := o) ?_ ?_ (e2.trans (k6.trans y1)) (k8 D o ⟨e3, e4, e5, e6, e7, e8, e9⟩ hsp)
      · have e : F_90 W (nI v) = some (.inl (nI sc), V1.w_board D) := by
          rw [hc0]
          unfold J_90_0_j23
          rw [k1, Option.bind_some, f1, Option.bind_some, Option.bind_some]
          show some (Sum.inl (D.strategyCount - 1), V1.w_board D) = _
          rw [d6, z1, pk_sub (by omega), Nat.add_sub_cancel]
        unfold F_272
        rw [e]
        rfl
      · rw [show (V1.w_board D).md = V1.md from rfl, k4]
        show F_195 W.md (nI v) = _
        rw [hm0]
        unfold J_195_0_j36
        rw [m180f, Option.bind_some]
        dsimp only
        rw [if_pos rfl, k2, Option.bind_some, r1, Option.bind_some, ho, Option.bind_some, show ix 14 93 = some 14 from rfl, Option.bind_some, e1, r3.1, z1, pk_sub (by omega), Nat.add_sub_cancel]
  | false =>
    rw [hv] at e172
    refine ans_no (v := 1) (B := W.thr) (u := 0) (o := y.w_thrown 1) (by decide) ?_ ?_ rfl (h.ex y2 1)
    · unfold F_272 F_90
      rw [c124f qB (by omega) hv]
      rfl
    · show F_195 W.md x = _
      unfold F_195
      rw [hy, Option.bind_some, e172, Option.bind_some, m135f]
      rfl
theorem op12 (h : Sim k W) (hk : k < 90000) (x : Int32) : Ans k (F_274 W x) (fun M => F_197 M x) := by
  obtain ⟨y, hy, y1, y2⟩ := md_thrown W.md 0
  obtain ⟨n, E, pl, sc, tg, wt, pr, ⟨qB, qP, qS, qD, rM, rP, rS, r13, hG, hC, hO, h9⟩, hol, hfc, hd⟩ := h.op y2
  have hn := hG.2.1
  have h1 := hG.1
  have hE := hG.E_lt
  have h31 : ∀ v, v < 6 → pl v < 2 ^ 31 := fun v hv => by have := h9 v hv; omega
  have sq : SQ n E pl sc tg wt pr W.board y.now := ⟨qB, qP, qS, qD, rM, rP, rS, r13, hG, hC, hO, h9⟩
  have e174 : F_174 y x = some (bI (isv sc x)) := m174 rS hO.1 x
  have s6 := hO.1
  cases hv : isv sc x with
  | true =>
    obtain ⟨s, hs, rfl⟩ := isv_of (by omega) hv
    rw [hv] at e174
    obtain ⟨V1, M1, k1, k2, k3, k4, k5, k6, k7, k8⟩ := h.kept hk (RG.rf hol hfc) (by decide) y2
    have vB : CB n E V1.board := by rw [k3]; exact qB
    have vS : CS n sc tg wt pr V1.board := by rw [k3]; exact qS
    have rS1 : MS n sc tg wt pr M1.now := by rw [k5]; exact rS
    obtain ⟨f, g, q, f1, cS⟩ := c26 vB vS hn s6 hs
    obtain ⟨D, hD, d1, d2, d3, d4, d5, d6⟩ := bd_sb5 V1.board f g q (nI (sc - 1))
    rw [hD] at f1 cS
    obtain ⟨Y, hY, b1, b2, b3, b4, b5, b6, b7, b8, b9⟩ := md_now M1 (upd M1.now 14 (nI (sc - 1)))
    obtain ⟨R', r1, r2⟩ := m197l (M := Y) s hs s6 (by rw [b1, pk_us])
    obtain ⟨o, ho, e1, e2, e3, e4, e5, e6, e7, e8, e9⟩ := md_now Y R'
    rw [ho] at r1
    have r14 : R' 14 = nI (sc - 1) := by rw [r2 14, if_neg (by omega), b1, pk_us]
    have rM' : MS n (sc - 1) (dtg s tg) (dwt s wt) (dwt s pr) R' := by
      refine dMS rS1 hn hs r14 fun j hj => ?_
      rw [r2 j, b1]
      by_cases c : 15 + 13 * s ≤ j ∧ j < 15 + 13 * (sc - 1)
      · rw [if_pos c, if_pos c, pk_un (by omega)]
      · rw [if_neg c, if_neg c, pk_un hj]
    have hsp : SP D o.now := sq.st (d1.trans (by rw [k3])) (d2.trans (by rw [k3])) (d3.trans (by rw [k3])) (d4.trans (by rw [k3])) (d5.trans (by rw [k3])) cS (by rw [e1]; exact rM') (fun j hj => by rw [e1, r2 j, if_neg (by omega), b1, pk_un (by omega), k5]) (dSO hO hs)
    refine ans_ok (B := V1.w_board D) (u := nI (sc - 1)) (o := o) ?_ ?_ (e2.trans (b2.trans (k6.trans y1))) (k8 D o ⟨e3.trans b3, e4.trans b4, e5.trans b5, e6.trans b6, e7.trans b7, e8.trans b8, e9.trans b9⟩ hsp)
    · have e : F_92 W (nI s) = some (.inl (nI (sc - 1)), V1.w_board D) := by
        unfold F_92
        rw [c126t qS (by omega) hs, Option.bind_some]
        dsimp only
        rw [xq_l, k1, Option.bind_some, f1, Option.bind_some, Option.bind_some]
        show some (Sum.inl D.strategyCount, V1.w_board D) = _
        rw [d6]
      unfold F_274
      rw [e]
      rfl
    · rw [show (V1.w_board D).md = V1.md from rfl, k4]
      show F_197 W.md (nI s) = _
      unfold F_197
      rw [hy, Option.bind_some, e174, Option.bind_some, m135t, Option.bind_some]
      dsimp only
      rw [if_pos rfl, k2, Option.bind_some, show ix 14 93 = some 14 from rfl, Option.bind_some, rS1.1, z1, pk_sub (by omega), hY, Option.bind_some, show (13 : Int32) = nI 13 from rfl, show (15 : Int32) = nI 15 from rfl, pk_mul, nI_add, r1, Option.bind_some, Option.bind_some, e1, r14]
  | false =>
    rw [hv] at e174
    refine ans_no (v := 1) (B := W.thr) (u := 0) (o := y.w_thrown 1) (by decide) ?_ ?_ rfl (h.ex y2 1)
    · unfold F_274 F_92
      rw [c126f qS (by omega) hv]
      rfl
    · show F_197 W.md x = _
      unfold F_197
      rw [hy, Option.bind_some, e174, Option.bind_some, m135f]
      rfl
theorem op11 (h : Sim k W) (hk : k < 90000) (x z q w : Int32) : Ans k (F_273 W x z q w) (fun M => F_196 M x z q w) := by
  obtain ⟨y, hy, y1, y2⟩ := md_thrown W.md 0
  obtain ⟨n, E, pl, sc, tg, wt, pr, ⟨qB, qP, qS, qD, rM, rP, rS, r13, hG, hC, hO, h9⟩, hol, hfc, hd⟩ := h.op y2
  have hn := hG.2.1
  have h1 := hG.1
  have hE := hG.E_lt
  have h31 : ∀ v, v < 6 → pl v < 2 ^ 31 := fun v hv => by have := h9 v hv; omega
  have sq : SQ n E pl sc tg wt pr W.board y.now := ⟨qB, qP, qS, qD, rM, rP, rS, r13, hG, hC, hO, h9⟩
  have e173 : F_173 y z q = some (bI (isv n z && isv n q)) := m173 rM.1 (by omega) (by omega) z q
  have e174 : F_174 y x = some (bI (isv sc x)) := m174 rS hO.1 x
  have e134 : F_134 w.toInt64 0 (64 : Int64) = some (bI (decide (0 ≤ w ∧ w ≤ 64))) := m134 w 0 64
  have s6 := hO.1
  have bad : F_91 W x z q w = some (.inr 2, W.thr) → F_196 W.md x z q w = some (0, y.w_thrown 1) → Ans k (F_273 W x z q w) (fun M => F_196 M x z q w) := by
    intro e1 e2
    refine ans_no (v := 1) (B := W.thr) (u := 0) (o := y.w_thrown 1) (by decide) ?_ e2 rfl (h.ex y2 1)
    unfold F_273
    rw [e1]
    rfl
  cases hx : isv sc x with
  | false =>
    rw [hx] at e174
    refine bad ?_ ?_
    · unfold F_91
      rw [c126f qS (by omega) hx]
      rfl
    · unfold F_196
      rw [hy, Option.bind_some, e174, Option.bind_some, if_pos (by decide)]
      rfl
  | true =>
    obtain ⟨s, hs, rfl⟩ := isv_of (by omega) hx
    rw [hx] at e174
    cases hv : isv n z && isv n q with
    | false =>
      rw [hv] at e173
      refine bad ?_ ?_
      · unfold F_91
        rw [c126t qS (by omega) hs, Option.bind_some]
        dsimp only
        rw [xq_l]
        cases hz : isv n z with
        | false =>
          rw [c124f qB (by omega) hz]
          rfl
        | true =>
          obtain ⟨v, hv', rfl⟩ := isv_of (by omega) hz
          rw [hz, Bool.true_and] at hv
          rw [c124t qB (by omega) hv', Option.bind_some]
          dsimp only
          rw [xq_l, c124f qB (by omega) hv]
          rfl
      · unfold F_196
        rw [hy, Option.bind_some, e174, Option.bind_some, if_neg (by decide), e173, Option.bind_some, if_pos (by decide)]
        rfl
    | true =>
      obtain ⟨hz, hq⟩ := (Bool.and_eq_true _ _).mp hv
      obtain ⟨v, hv', rfl⟩ := isv_of (by omega) hz
      obtain ⟨p, hp, rfl⟩ := isv_of (by omega) hq
      rw [hv] at e173
      have hm0 : F_196 W.md (nI s) (nI v) (nI p) w = (if bI (decide (0 ≤ w ∧ w ≤ 64)) = 0 then J_196_0_j65 y (nI s) (nI v) (nI p) w else (F_177 y (nI s) 0).bind fun v28 => if v28 = nI v then J_196_0_j65 y (nI s) (nI v) (nI p) w else J_196_0_j66 y (nI s) (nI v) (nI p) w 1) := by
        unfold F_196
        rw [hy, Option.bind_some, e174, Option.bind_some, if_neg (by decide), e173, Option.bind_some, if_neg (by decide)]
        unfold J_196_0_j28
        rw [show F_135 y 1 1 = some (0, y) from rfl, Option.bind_some]
        dsimp only
        rw [if_pos rfl, e134, Option.bind_some]
      have hc0 : F_91 W (nI s) (nI v) (nI p) w = (if w < 0 then J_91_0_j40 W else if 64 < w then J_91_0_j40 W else (ix (nI s) 6).bind fun i18 => if ¬ nI v = (W.board.targets i18) then (F_50 W).bind fun B22 => (F_28 B22.board (nI s) (nI v)).bind fun v24 => (F_27 B22.board (nI s) (nI v) (nI p) w).bind fun o26 => (some (B22.w_board o26)).bind fun B27 => some (.inl v24, B27) else J_91_0_j40 W) := by
        unfold F_91
        rw [c126t qS (by omega) hs, Option.bind_some]
        dsimp only
        rw [xq_l, c124t qB (by omega) hv', Option.bind_some]
        dsimp only
        rw [xq_l, c124t qB (by omega) hp, Option.bind_some]
        rfl
      have bad2 : F_91 W (nI s) (nI v) (nI p) w = some (.inr 1, W.thr) → F_196 W.md (nI s) (nI v) (nI p) w = J_196_0_j65 y (nI s) (nI v) (nI p) w → Ans k (F_273 W (nI s) (nI v) (nI p) w) (fun M => F_196 M (nI s) (nI v) (nI p) w) := by
        intro e1 e2
        refine ans_no (v := 2) (B := W.thr) (u := 0) (o := y.w_thrown 2) (by decide) ?_ (e2.trans rfl) rfl (h.ex y2 2)
        unfold F_273
        rw [e1]
        rfl
      by_cases hw : 0 ≤ w ∧ w ≤ 64
      · obtain ⟨a, ha, rfl⟩ := le_nI (m := 64) (by decide) hw.1 hw.2
        have htg := (hO.2 s hs).1
        rw [decide_eq_true hw, if_neg (by decide), m177t rS s6 hs, Option.bind_some] at hm0
        rw [if_neg (by rw [Int32.not_lt]; exact hw.1), if_neg (by rw [Int32.not_lt]; exact hw.2), ixn (by omega) (by decide), Option.bind_some, (qS.2 s hs).1] at hc0
        by_cases hvt : v = tg s
        · rw [if_pos (by rw [hvt])] at hm0
          rw [if_neg (fun z => z (by rw [hvt]))] at hc0
          exact bad2 hc0 hm0
        · have hne : ¬ nI v = nI (tg s) := by rw [nI_eq (by omega) (by omega)]; exact hvt
          rw [if_neg (fun z => hne z.symm)] at hm0
          rw [if_pos hne] at hc0
          obtain ⟨V1, M1, k1, k2, k3, k4, k5, k6, k7, k8⟩ := h.kept hk (RG.rf hol hfc) (by decide) y2
          have vB : CB n E V1.board := by rw [k3]; exact qB
          have vS : CS n sc tg wt pr V1.board := by rw [k3]; exact qS
          have rS1 : MS n sc tg wt pr M1.now := by rw [k5]; exact rS
          have uc := uCS (k := s) (v := v) (q := p) (w := a) vS hn hv'
          have um := uMS (k := s) (v := v) (q := p) (w := a) rS1 hn hv'
          obtain ⟨D, hD, d1, d2, d3, d4, d5⟩ := bd_wp5 V1.board (upd V1.board.weights (6 * s + v) (nI a)) (upd V1.board.parents (6 * s + v) (nI p))
          rw [hD] at uc
          obtain ⟨X, hX, b1, b2, b3, b4, b5, b6, b7, b8, b9⟩ := md_now M1 (upd M1.now (16 + 13 * s + v) (nI a))
          obtain ⟨o, ho, e1, e2, e3, e4, e5, e6, e7, e8, e9⟩ := md_now X (upd X.now (22 + 13 * s + v) (nI p))
          have en : o.now = upd (upd M1.now (16 + 13 * s + v) (nI a)) (22 + 13 * s + v) (nI p) := by rw [e1, b1]
          have hsp : SP D o.now := sq.st (d1.trans (by rw [k3])) (d2.trans (by rw [k3])) (d3.trans (by rw [k3])) (d4.trans (by rw [k3])) (d5.trans (by rw [k3])) uc (by rw [en]; exact um) (fun j hj => by rw [en, pk_un (by omega), pk_un (by omega), k5]) (uSO hO hp ha)
          refine ans_ok (B := V1.w_board D) (u := nI (wt s v)) (o := o) ?_ ?_ (e2.trans (b2.trans (k6.trans y1))) (k8 D o ⟨e3.trans b3, e4.trans b4, e5.trans b5, e6.trans b6, e7.trans b7, e8.trans b8, e9.trans b9⟩ hsp)
          · have e : F_91 W (nI s) (nI v) (nI p) (nI a) = some (.inl (nI (wt s v)), V1.w_board D) := by
              rw [hc0, k1, Option.bind_some, c28 vS hn s6 hs hv', Option.bind_some, c27 (by omega), hD, Option.bind_some, Option.bind_some]
            unfold F_273
            rw [e]
            rfl
          · rw [show (V1.w_board D).md = V1.md from rfl, k4]
            show F_196 W.md (nI s) (nI v) (nI p) (nI a) = _
            rw [hm0]
            unfold J_196_0_j66
            have i1 : ix (((15 + (13 * nI s)) + 1) + nI v) 93 = some (16 + 13 * s + v) := by
              rw [show (15 : Int32) = nI 15 from rfl, show (13 : Int32) = nI 13 from rfl, pk_mul, nI_add, nI_1, nI_add, ixn (by omega) (by decide)]
              congr 1
              omega
            have i2 : ix (((15 + (13 * nI s)) + 7) + nI v) 93 = some (22 + 13 * s + v) := by
              rw [show (15 : Int32) = nI 15 from rfl, show (13 : Int32) = nI 13 from rfl, show (7 : Int32) = nI 7 from rfl, pk_mul, nI_add, nI_add, nI_add, ixn (by omega) (by decide)]
              congr 1
              omega
            rw [show F_135 y 1 2 = some (0, y) from rfl, Option.bind_some]
            dsimp only
            rw [if_pos rfl, k2, Option.bind_some, i1, Option.bind_some, hX, Option.bind_some, i2, Option.bind_some, ho, Option.bind_some, ((rS1.2 s hs).2 v hv').1]
      · rw [decide_eq_false hw, if_pos (by decide)] at hm0
        refine bad2 ?_ hm0
        rw [hc0]
        by_cases h0 : w < 0
        · rw [if_pos h0]
          rfl
        · rw [if_neg h0, if_pos (show 64 < w from by
            rw [← Int32.not_le]
            exact fun q => hw ⟨by rw [← Int32.not_lt]; exact h0, q⟩)]
          rfl
end STC
