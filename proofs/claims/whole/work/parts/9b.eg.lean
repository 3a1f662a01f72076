/-! ===== EDGES LAID AND TAKEN: the calls ===== -/
section EDG
variable {k : Nat} {W : Wd}
theorem c125t {n E u v : Nat} (hB : CB n E W.board) (hn : n < 2 ^ 31) (hu : u < n) (hv : v < n) (hne : ¬ nI u = nI v) : F_125 W (nI u) (nI v) = some (.inl (), W) := by
  unfold F_125
  rw [c124t hB hn hu, Option.bind_some]
  dsimp only
  rw [xq_l, c124t hB hn hv, Option.bind_some]
  dsimp only
  rw [xq_l, if_pos hne]
theorem c125e {n E u : Nat} (hB : CB n E W.board) (hn : n < 2 ^ 31) (hu : u < n) : F_125 W (nI u) (nI u) = some (.inr 1, W.thr) := by
  unfold F_125
  rw [c124t hB hn hu, Option.bind_some]
  dsimp only
  rw [xq_l, c124t hB hn hu, Option.bind_some]
  dsimp only
  rw [xq_l, if_neg (fun z => z rfl)]
theorem c125f {n E : Nat} {x z : Int32} (hB : CB n E W.board) (hn : n < 2 ^ 31) (hv : (isv n x && isv n z) = false) : F_125 W x z = some (.inr 2, W.thr) := by
  unfold F_125
  cases hx : isv n x with
  | false =>
    rw [c124f hB hn hx]
    rfl
  | true =>
    obtain ⟨u, hu, rfl⟩ := isv_of hn hx
    rw [hx, Bool.true_and] at hv
    rw [c124t hB hn hu, Option.bind_some]
    dsimp only
    rw [xq_l, c124f hB hn hv]
    rfl
theorem SQ.edge {n E E' sc : Nat} {pl tg : Nat → Nat} {wt : Nat → Nat → Nat} {pr : Nat → Nat → Option Nat} {B D : Bd} {R R' : Nat → Int32} (h : SQ n E pl sc tg wt pr B R) (h1 : CB n E' D) (h2 : D.pile = B.pile) (h3 : D.moveCount = B.moveCount) (h4 : D.strategyCount = B.strategyCount) (h5 : D.targets = B.targets) (h6 : D.weights = B.weights) (h7 : D.parents = B.parents) (h8 : CD n E' D) (h9 : MR n E' R') (h10 : ∀ j, 7 ≤ j → R' j = R j) (h11 : Gr n E') (h12 : Cn n E') : SP D R' := by
  obtain ⟨a1, a2, a3, a4, a5, a6, a7, a8, a9, a10, a11, a12⟩ := h
  refine ⟨n, E', pl, sc, tg, wt, pr, h1, fun v hv => by rw [h2]; exact a2 v hv, ⟨h4.trans a3.1, fun k hk => by rw [h5, h6, h7]; exact a3.2 k hk⟩, h8, h9, fun v hv => by rw [h10 _ (by omega)]; exact a6 v hv, ⟨by rw [h10 _ (by decide)]; exact a7.1, fun k hk => ⟨by rw [h10 _ (by omega)]; exact (a7.2 k hk).1, fun v hv => ⟨by rw [h10 _ (by omega)]; exact ((a7.2 k hk).2 v hv).1, by rw [h10 _ (by omega)]; exact ((a7.2 k hk).2 v hv).2⟩⟩⟩, by rw [h10 _ (by decide), h3]; exact a8, h11, h12, a11, a12⟩
theorem refuse (V : Wd) (r : Int32) : F_128 V r = some (.inr 0, (V.w_pp (V.pp.w_refusal r)).thr) := rfl
theorem xq_r {α β : Type} {a : Nat} {f : Nat → Option β} {g : α → Option β} : xq (.inr a) f g = f a := rfl
theorem op4 (h : Sim k W) (hk : k < 90000) (x z : Int32) : Ans k (F_266 W x z) (fun M => F_185 M x z) := by
  obtain ⟨y, hy, y1, y2⟩ := md_thrown W.md 0
  obtain ⟨n, E, pl, sc, tg, wt, pr, ⟨qB, qP, qS, qD, rM, rP, rS, r13, hG, hC, hO, h9⟩, hol, hfc, hd⟩ := h.op y2
  have hn := hG.2.1
  have h1 := hG.1
  have hE := hG.E_lt
  have h31 : ∀ v, v < 6 → pl v < 2 ^ 31 := fun v hv => by have := h9 v hv; omega
  have e173 : F_173 y x z = some (bI (isv n x && isv n z)) := m173 rM.1 (by omega) (by omega) x z
  cases hv : isv n x && isv n z with
  | true =>
    obtain ⟨hx1, hx2⟩ := (Bool.and_eq_true _ _).mp hv
    obtain ⟨u, hu, rfl⟩ := isv_of (by omega) hx1
    obtain ⟨v, hv', rfl⟩ := isv_of (by omega) hx2
    rw [hv] at e173
    by_cases hne : u = v
    · subst hne
      refine ans_no (v := 2) (B := W.thr) (u := 0) (o := y.w_thrown 2) (by decide) ?_ ?_ rfl (h.ex y2 2)
      · unfold F_266 F_84
        rw [c125e qB (by omega) hu]
        rfl
      · show F_185 W.md (nI u) (nI u) = _
        unfold F_185
        rw [hy, Option.bind_some, e173, Option.bind_some, m135t, Option.bind_some]
        dsimp only
        rw [if_neg (show ¬ ¬ (0 : Int32) = 0 from fun z => z rfl), if_pos rfl]
        rfl
    · have hne' : ¬ nI u = nI v := by rw [nI_eq (by omega) (by omega)]; exact hne
      have sq : SQ n E pl sc tg wt pr W.board y.now := ⟨qB, qP, qS, qD, rM, rP, rS, r13, hG, hC, hO, h9⟩
      cases had : ad E u v with
      | true =>
        refine ans_no (v := 3) (B := (W.w_pp (W.pp.w_refusal 1)).thr) (u := 0) (o := (y.w_reason 1).w_thrown 3) (by decide) ?_ ?_ rfl (h.ref (RG.rf hol hfc) (by decide) y2 1 3)
        · have e : F_84 W (nI u) (nI v) = some (.inr 0, (W.w_pp (W.pp.w_refusal 1)).thr) := by
            unfold F_84
            rw [c125t qB (by omega) hu hv' hne', Option.bind_some]
            dsimp only
            rw [xq_l, c6 qB hE (by omega) (by omega), had, Option.bind_some, if_neg (by decide), refuse]
            rfl
          unfold F_266
          rw [e]
          rfl
        · show F_185 W.md (nI u) (nI v) = _
          unfold F_185
          rw [hy, Option.bind_some, e173, Option.bind_some, m135t, Option.bind_some]
          dsimp only
          rw [if_neg (show ¬ ¬ (0 : Int32) = 0 from fun z => z rfl), if_neg hne']
          unfold J_185_0_j30
          rw [show F_135 y 1 2 = some (0, y) from rfl, Option.bind_some]
          dsimp only
          rw [if_neg (show ¬ ¬ (0 : Int32) = 0 from fun z => z rfl), m175 rM (by omega) (by omega), had]
          rfl
      | false =>
        obtain ⟨V1, M1, k1, k2, k3, k4, k5, k6, k7, k8⟩ := h.kept hk (RG.rf hol hfc) (by decide) y2
        have vB : CB n E V1.board := by rw [k3]; exact qB
        obtain ⟨B', b1, b2, b3, b4, b5, b6, b7, b8⟩ := c4 vB (u := u) (v := v) (by omega) (by omega)
        have hG' := hG.ae hu hv' hne
        have hC' := hC.ae hG hu hv' hne
        obtain ⟨f, f1, f2⟩ := c13 b2 hG' hC'
        obtain ⟨D, hD, d1, d2, d3, d4, d5, d6, d7, d8, d9⟩ := bd_dist B' f
        rw [hD] at f1 f2
        have cD : CB n (ae E u v) D := ⟨d1.trans b2.1, d2.trans b2.2⟩
        have r1 : MR n E M1.now := by rw [k5]; exact rM
        obtain ⟨M', m1, m2, m3, m4, m5, m6, m7, m8, m9, m10, m11⟩ := m184 r1 (by omega) (by omega) hne (TG.ae hG hu hv' hne had)
        refine ans_ok (B := V1.w_board D) (u := nI (ec n (ae E u v))) (o := M') ?_ ?_ (m4.trans (k6.trans y1)) (k8 D M' ⟨m5, m6, m7, m8, m9, m10, m11⟩ (sq.edge cD (d5.trans (b3.trans (by rw [k3]))) (d3.trans (b4.trans (by rw [k3]))) (d4.trans (b5.trans (by rw [k3]))) (d6.trans (b6.trans (by rw [k3]))) (d7.trans (b7.trans (by rw [k3]))) (d8.trans (b8.trans (by rw [k3]))) f2 m2 (fun j hj => by rw [m3 j (.inr hj), k5]) hG' hC'))
        · have e : F_84 W (nI u) (nI v) = some (.inl (nI (ec n (ae E u v))), V1.w_board D) := by
            unfold F_84
            rw [c125t qB (by omega) hu hv' hne', Option.bind_some]
            dsimp only
            rw [xq_l, c6 qB hE (by omega) (by omega), had, Option.bind_some, if_pos (by decide)]
            unfold J_84_0_j23
            rw [k1, Option.bind_some, b1, Option.bind_some, Option.bind_some]
            rw [show (V1.w_board B').board = B' from rfl, f1, Option.bind_some, Option.bind_some]
            rw [show ((V1.w_board B').w_board D) = V1.w_board D from rfl, show (V1.w_board D).board = D from rfl, c7 cD hG']
            rfl
          unfold F_266
          rw [e]
          rfl
        · rw [show (V1.w_board D).md = V1.md from rfl, k4]
          show F_185 W.md (nI u) (nI v) = _
          unfold F_185
          rw [hy, Option.bind_some, e173, Option.bind_some, m135t, Option.bind_some]
          dsimp only
          rw [if_neg (show ¬ ¬ (0 : Int32) = 0 from fun z => z rfl), if_neg hne']
          unfold J_185_0_j30
          rw [show F_135 y 1 2 = some (0, y) from rfl, Option.bind_some]
          dsimp only
          rw [if_neg (show ¬ ¬ (0 : Int32) = 0 from fun z => z rfl), m175 rM (by omega) (by omega), had, Option.bind_some, show F_180 y (bI false) 1 3 = some (0, y) from rfl, Option.bind_some]
          dsimp only
          rw [if_pos rfl, k2, Option.bind_some, m1, Option.bind_some, m178 m2 hG']
          rfl
  | false =>
    rw [hv] at e173
    refine ans_no (v := 1) (B := W.thr) (u := 0) (o := y.w_thrown 1) (by decide) ?_ ?_ rfl (h.ex y2 1)
    · unfold F_266 F_84
      rw [c125f qB (by omega) hv]
      rfl
    · show F_185 W.md x z = _
      unfold F_185
      rw [hy, Option.bind_some, e173, Option.bind_some, m135f]
      rfl
theorem m186 {M : Md} {n E u v : Nat} (rM : MR n E M.now) (hG : Gr n E) (hu : u < n) (hv : v < n) (hne : ¬ u = v) (had : ad E u v = true) : ∃ M', F_186 M (nI u) (nI v) = some (bI (!decide (pcn (bl n (re E u v) 0 (n - 1)) n = n)), M') ∧ MO M M' ∧ M'.thrown = M.thrown := by
  have hn := hG.2.1
  obtain ⟨t1, t2⟩ := TG.re hG hu hv hne had
  have hG' := hG.re (u := u) (v := v) (by omega) (by omega)
  obtain ⟨X, x1, x2, x3, x4, x5, x6, x7, x8, x9, x10, x11⟩ := m184 rM (by omega) (by omega) hne t1
  obtain ⟨Y, y1, y2, y3, y4, y5, y6, y7, y8, y9, y10, y11⟩ := m184 x2 (by omega) (by omega) hne t2
  have hnow : Y.now = M.now := by
    funext j
    by_cases hj : j = 0 ∨ 7 ≤ j
    · rw [y3 j hj, x3 j hj]
    · obtain ⟨w, hw, rfl⟩ : ∃ w, w < 6 ∧ j = 1 + w := ⟨j - 1, by omega, by omega⟩
      rw [y2.2 w hw, rM.2 w hw]
  refine ⟨Y, ?_, ⟨hnow, y5.trans x5, y6.trans x6, y7.trans x7, y8.trans x8, y9.trans x9, y10.trans x10, y11.trans x11⟩, y4.trans x4⟩
  have j21 : ∀ b, J_186_0_j21 X (nI u) (nI v) (bI b) = some (bI b, Y) := by
    intro b
    unfold J_186_0_j21
    rw [y1, Option.bind_some]
    exact bI_ok
  unfold F_186
  rw [x1, Option.bind_some, m154 x2 hG', Option.bind_some]
  cases decide (pcn (bl n (re E u v) 0 (n - 1)) n = n) with
  | true =>
    rw [if_pos (by decide)]
    exact j21 false
  | false =>
    rw [if_neg (by decide)]
    exact j21 true
theorem op5 (h : Sim k W) (hk : k < 90000) (x z : Int32) : Ans k (F_267 W x z) (fun M => F_187 M x z) := by
  obtain ⟨y, hy, y1, y2⟩ := md_thrown W.md 0
  obtain ⟨n, E, pl, sc, tg, wt, pr, ⟨qB, qP, qS, qD, rM, rP, rS, r13, hG, hC, hO, h9⟩, hol, hfc, hd⟩ := h.op y2
  have hn := hG.2.1
  have h1 := hG.1
  have hE := hG.E_lt
  have h31 : ∀ v, v < 6 → pl v < 2 ^ 31 := fun v hv => by have := h9 v hv; omega
  have e173 : F_173 y x z = some (bI (isv n x && isv n z)) := m173 rM.1 (by omega) (by omega) x z
  cases hv : isv n x && isv n z with
  | true =>
    obtain ⟨hx1, hx2⟩ := (Bool.and_eq_true _ _).mp hv
    obtain ⟨u, hu, rfl⟩ := isv_of (by omega) hx1
    obtain ⟨v, hv', rfl⟩ := isv_of (by omega) hx2
    rw [hv] at e173
    by_cases hne : u = v
    · subst hne
      refine ans_no (v := 2) (B := W.thr) (u := 0) (o := y.w_thrown 2) (by decide) ?_ ?_ rfl (h.ex y2 2)
      · unfold F_267 F_85
        rw [c125e qB (by omega) hu]
        rfl
      · show F_187 W.md (nI u) (nI u) = _
        unfold F_187
        rw [hy, Option.bind_some, e173, Option.bind_some, m135t, Option.bind_some]
        dsimp only
        rw [if_neg (show ¬ ¬ (0 : Int32) = 0 from fun z => z rfl), if_pos rfl]
        rfl
    · have hne' : ¬ nI u = nI v := by rw [nI_eq (by omega) (by omega)]; exact hne
      have sq : SQ n E pl sc tg wt pr W.board y.now := ⟨qB, qP, qS, qD, rM, rP, rS, r13, hG, hC, hO, h9⟩
      have mm : F_187 W.md (nI u) (nI v) = (if ¬ bI (ad E u v) = 0 then J_187_0_j54 y (nI u) (nI v) 0 else J_187_0_j54 y (nI u) (nI v) 1) := by
        unfold F_187
        rw [hy, Option.bind_some, e173, Option.bind_some, m135t, Option.bind_some]
        dsimp only
        rw [if_neg (show ¬ ¬ (0 : Int32) = 0 from fun z => z rfl), if_neg hne']
        unfold J_187_0_j30
        rw [show F_135 y 1 2 = some (0, y) from rfl, Option.bind_some]
        dsimp only
        rw [if_pos rfl, m175 rM (by omega) (by omega), Option.bind_some]
      have cc : F_85 W (nI u) (nI v) = (if ¬ bI (ad E u v) = 0 then J_85_0_j23 W (nI u) (nI v) else (F_128 W 2).bind fun (r30, B31) => xq r30 (fun X32 => some (.inr X32, B31)) fun u33 => J_85_0_j23 B31 (nI u) (nI v)) := by
        unfold F_85
        rw [c125t qB (by omega) hu hv' hne', Option.bind_some]
        dsimp only
        rw [xq_l, c6 qB hE (by omega) (by omega), Option.bind_some]
      cases had : ad E u v with
      | false =>
        rw [had] at mm cc
        refine ans_no (v := 3) (B := (W.w_pp (W.pp.w_refusal 2)).thr) (u := 0) (o := (y.w_reason 2).w_thrown 3) (by decide) ?_ ?_ rfl (h.ref (RG.rf hol hfc) (by decide) y2 2 3)
        · unfold F_267
          rw [cc, if_neg (by decide), refuse]
          rfl
        · show F_187 W.md (nI u) (nI v) = _
          rw [mm, if_neg (by decide)]
          rfl
      | true =>
        rw [had] at mm cc
        rw [if_pos (by decide)] at mm cc
        have e12 := c12 qB hG (u := u) (v := v) (by omega) (by omega)
        obtain ⟨Y, n1, n2, n3⟩ := m186 rM hG hu hv' hne had
        have rY : MR n E Y.now := by rw [n2.1]; exact rM
        have mm2 : F_187 W.md (nI u) (nI v) = (F_180 Y (bI (!decide (pcn (bl n (re E u v) 0 (n - 1)) n = n))) 3 3).bind fun (v25, B26) => if v25 = 0 then (F_166 B26).bind fun B29 => (F_184 B29 (nI u) (nI v)).bind fun B31 => (F_178 B31).bind fun v33 => some (v33, B31) else J_187_0_j77 B26 := by
          rw [mm]
          unfold J_187_0_j54
          rw [m180f, Option.bind_some]
          dsimp only
          rw [if_neg (show ¬ ¬ (0 : Int32) = 0 from fun z => z rfl), n1]
          rfl
        by_cases hcn : pcn (bl n (re E u v) 0 (n - 1)) n = n
        · rw [decide_eq_true hcn] at mm2 e12
          obtain ⟨V1, M1, k1, k2, k3, k4, k5, k6, k7, k8⟩ := h.kept hk (RG.rf hol hfc) (by decide) (y2.tr n2)
          have vB : CB n E V1.board := by rw [k3]; exact qB
          obtain ⟨B', b1, b2, b3, b4, b5, b6, b7, b8⟩ := c5 vB (u := u) (v := v) (by omega) (by omega)
          have hG' := hG.re (u := u) (v := v) (by omega) (by omega)
          have hC' : Cn n (re E u v) := Cn_pcn.1 hcn
          obtain ⟨f, f1, f2⟩ := c13 b2 hG' hC'
          obtain ⟨D, hD, d1, d2, d3, d4, d5, d6, d7, d8, d9⟩ := bd_dist B' f
          rw [hD] at f1 f2
          have cD : CB n (re E u v) D := ⟨d1.trans b2.1, d2.trans b2.2⟩
          have r1 : MR n E M1.now := by rw [k5]; exact rY
          obtain ⟨M', m1, m2, m3, m4, m5, m6, m7, m8, m9, m10, m11⟩ := m184 r1 (by omega) (by omega) hne (TG.re hG hu hv' hne had).1
          refine ans_ok (B := V1.w_board D) (u := nI (ec n (re E u v))) (o := M') ?_ ?_ (m4.trans (k6.trans (n3.trans y1))) (k8 D M' ⟨m5, m6, m7, m8, m9, m10, m11⟩ (sq.edge cD (d5.trans (b3.trans (by rw [k3]))) (d3.trans (b4.trans (by rw [k3]))) (d4.trans (b5.trans (by rw [k3]))) (d6.trans (b6.trans (by rw [k3]))) (d7.trans (b7.trans (by rw [k3]))) (d8.trans (b8.trans (by rw [k3]))) f2 m2 (fun j hj => by rw [m3 j (.inr hj), k5, n2.1]) hG' hC'))
          · have e : F_85 W (nI u) (nI v) = some (.inl (nI (ec n (re E u v))), V1.w_board D) := by
              rw [cc]
              unfold J_85_0_j23
              rw [e12, Option.bind_some, if_pos (by decide)]
              unfold J_85_0_j40
              rw [k1, Option.bind_some, b1, Option.bind_some, Option.bind_some]
              rw [show (V1.w_board B').board = B' from rfl, f1, Option.bind_some, Option.bind_some]
              rw [show ((V1.w_board B').w_board D) = V1.w_board D from rfl, show (V1.w_board D).board = D from rfl, c7 cD hG']
              rfl
            unfold F_267
            rw [e]
            rfl
          · rw [show (V1.w_board D).md = V1.md from rfl, k4]
            show F_187 W.md (nI u) (nI v) = _
            rw [mm2, show F_180 Y (bI (!true)) 3 3 = some (0, Y) from rfl, Option.bind_some]
            dsimp only
            rw [if_pos rfl, k2, Option.bind_some, m1, Option.bind_some, m178 m2 hG']
            rfl
        · rw [decide_eq_false hcn] at mm2 e12
          refine ans_no (v := 3) (B := (W.w_pp (W.pp.w_refusal 3)).thr) (u := 0) (o := (Y.w_reason 3).w_thrown 3) (by decide) ?_ ?_ rfl (h.ref (RG.rf hol hfc) (by decide) (y2.tr n2) 3 3)
          · have e : F_85 W (nI u) (nI v) = some (.inr 0, (W.w_pp (W.pp.w_refusal 3)).thr) := by
              rw [cc]
              unfold J_85_0_j23
              rw [e12, Option.bind_some, if_neg (by decide), refuse]
              rfl
            unfold F_267
            rw [e]
            rfl
          · show F_187 W.md (nI u) (nI v) = _
            rw [mm2]
            rfl
  | false =>
    rw [hv] at e173
    refine ans_no (v := 1) (B := W.thr) (u := 0) (o := y.w_thrown 1) (by decide) ?_ ?_ rfl (h.ex y2 1)
    · unfold F_267 F_85
      rw [c125f qB (by omega) hv]
      rfl
    · show F_187 W.md x z = _
      unfold F_187
      rw [hy, Option.bind_some, e173, Option.bind_some, m135f]
      rfl
end EDG
