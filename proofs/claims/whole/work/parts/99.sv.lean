/-! ===== SAVE, RESTORE, UNDO; A STRATEGY READ ===== -/
section SV
variable {k : Nat} {W : Wd}
theorem op35 (h : Sim k W) (x z q : Int32) : Ans k (F_291 W x z q) (fun M => F_239 M x z q) := by
  obtain ⟨y, hy, y1, y2⟩ := md_thrown W.md 0
  obtain ⟨n, E, pl, sc, tg, wt, pr, ⟨qB, qP, qS, qD, rM, rP, rS, r13, hG, hC, hO, h9⟩, hol, hfc, hd⟩ := h.op y2
  have hn := hG.2.1
  have h1 := hG.1
  have hE := hG.E_lt
  have h31 : ∀ v, v < 6 → pl v < 2 ^ 31 := fun v hv => by have := h9 v hv; omega
  have e172 : F_172 y z = some (bI (isv n z)) := m172 rM.1 (by omega) (by omega) z
  have e174 : F_174 y x = some (bI (isv sc x)) := m174 rS hO.1 x
  have s6 := hO.1
  have bad : F_115 W x z q = some (.inr 2, W.thr) → F_239 W.md x z q = some (0, y.w_thrown 1) → Ans k (F_291 W x z q) (fun M => F_239 M x z q) := by
    intro e1 e2
    refine ans_no (v := 1) (B := W.thr) (u := 0) (o := y.w_thrown 1) (by decide) ?_ e2 rfl (h.ex y2 1)
    unfold F_291
    rw [e1]
    rfl
  cases hx : isv sc x with
  | false =>
    rw [hx] at e174
    refine bad ?_ ?_
    · unfold F_115
      rw [c126f qS (by omega) hx]
      rfl
    · unfold F_239
      rw [hy, Option.bind_some, e174, Option.bind_some, if_pos (by decide)]
      rfl
  | true =>
    obtain ⟨s, hs, rfl⟩ := isv_of (by omega) hx
    rw [hx] at e174
    cases hz : isv n z with
    | false =>
      rw [hz] at e172
      refine bad ?_ ?_
      · unfold F_115
        rw [c126t qS (by omega) hs, Option.bind_some]
        dsimp only
        rw [xq_l, c124f qB (by omega) hz]
        rfl
      · unfold F_239
        rw [hy, Option.bind_some, e174, Option.bind_some, if_neg (by decide), e172, Option.bind_some, if_pos (by decide)]
        rfl
    | true =>
      obtain ⟨v, hv, rfl⟩ := isv_of (by omega) hz
      rw [hz] at e172
      have hc : F_115 W (nI s) (nI v) q = (if q = 0 then (ix (nI s) 6).bind fun i12 => some (.inl (W.board.targets i12), W) else if q = 1 then (F_28 W.board (nI s) (nI v)).bind fun v16 => some (.inl v16, W) else if q = 2 then (F_29 W.board (nI s) (nI v)).bind fun v19 => some (.inl v19, W) else some (.inr 1, W.thr)) := by
        unfold F_115
        rw [c126t qS (by omega) hs, Option.bind_some]
        dsimp only
        rw [xq_l, c124t qB (by omega) hv]
        rfl
      have hm : F_239 W.md (nI s) (nI v) q = J_239_0_j27 y (nI s) (nI v) q 1 := by
        unfold F_239
        rw [hy, Option.bind_some, e174, Option.bind_some, if_neg (by decide), e172, Option.bind_some, if_neg (by decide)]
      have e134 : F_134 q.toInt64 0 (2 : Int64) = some (bI (decide (0 ≤ q ∧ q ≤ 2))) := m134 q 0 2
      have good : ∀ u, F_115 W (nI s) (nI v) q = some (.inl u, W) → J_239_0_j27 y (nI s) (nI v) q 1 = some (u, y) → Ans k (F_291 W (nI s) (nI v) q) (fun M => F_239 M (nI s) (nI v) q) := by
        intro u e1 e2
        refine ans_ok (B := W) (u := u) (o := y) ?_ ?_ y1 (h.read (RG.rf hol hfc) (by decide) y2)
        · unfold F_291
          rw [e1]
          rfl
        · show F_239 W.md (nI s) (nI v) q = _
          rw [hm, e2]
      by_cases h0 : q = 0
      · subst h0
        refine good (nI (tg s)) ?_ ?_
        · rw [hc, if_pos rfl, ixn (by omega) (by decide), Option.bind_some, (qS.2 s hs).1]
        · unfold J_239_0_j27
          rw [show F_135 y 1 1 = some (0, y) from rfl, Option.bind_some]
          dsimp only
          rw [if_neg (show ¬ ¬ (0 : Int32) = 0 from fun z => z rfl), e134, Option.bind_some, show F_135 y (bI (decide ((0 : Int32) ≤ 0 ∧ (0 : Int32) ≤ 2))) 2 = some (0, y) from rfl, Option.bind_some]
          dsimp only
          rw [if_pos rfl, if_neg (show ¬ ¬ (0 : Int32) = 0 from fun z => z rfl), m177t rS s6 hs]
          rfl
      by_cases h1' : q = 1
      · subst h1'
        refine good (nI (wt s v)) ?_ ?_
        · rw [hc, if_neg h0, if_pos rfl, c28 qS hn s6 hs hv]
          rfl
        · unfold J_239_0_j27
          rw [show F_135 y 1 1 = some (0, y) from rfl, Option.bind_some]
          dsimp only
          rw [if_neg (show ¬ ¬ (0 : Int32) = 0 from fun z => z rfl), e134, Option.bind_some, show F_135 y (bI (decide ((0 : Int32) ≤ 1 ∧ (1 : Int32) ≤ 2))) 2 = some (0, y) from rfl, Option.bind_some]
          dsimp only
          rw [if_pos rfl, if_pos h0, if_neg (show ¬ ¬ (1 : Int32) = 1 from fun z => z rfl)]
          unfold J_239_0_j79
          rw [m177w rS hn s6 hs hv]
          rfl
      by_cases h2 : q = 2
      · subst h2
        refine good (pI (pr s v)) ?_ ?_
        · rw [hc, if_neg h0, if_neg h1', if_pos rfl, c29 qS hn s6 hs hv]
          rfl
        · unfold J_239_0_j27
          rw [show F_135 y 1 1 = some (0, y) from rfl, Option.bind_some]
          dsimp only
          rw [if_neg (show ¬ ¬ (0 : Int32) = 0 from fun z => z rfl), e134, Option.bind_some, show F_135 y (bI (decide ((0 : Int32) ≤ 2 ∧ (2 : Int32) ≤ 2))) 2 = some (0, y) from rfl, Option.bind_some]
          dsimp only
          rw [if_pos rfl, if_pos h0, if_pos h1']
          unfold J_239_0_j79
          rw [m177p rS hn s6 hs hv]
          rfl
      · have hno : ¬ (0 ≤ q ∧ q ≤ 2) := by
          rintro ⟨g0, g1⟩
          obtain ⟨a, ha, rfl⟩ := le_nI (m := 2) (by decide) g0 g1
          rcases (by omega : a = 0 ∨ a = 1 ∨ a = 2) with rfl | rfl | rfl
          · exact h0 rfl
          · exact h1' rfl
          · exact h2 rfl
        refine ans_no (v := 2) (B := W.thr) (u := 0) (o := y.w_thrown 2) (by decide) ?_ ?_ rfl (h.ex y2 2)
        · unfold F_291
          rw [hc, if_neg h0, if_neg h1', if_neg h2]
          rfl
        · show F_239 W.md (nI s) (nI v) q = _
          rw [hm]
          unfold J_239_0_j27
          rw [show F_135 y 1 1 = some (0, y) from rfl, Option.bind_some]
          dsimp only
          rw [if_neg (show ¬ ¬ (0 : Int32) = 0 from fun z => z rfl), e134, Option.bind_some, decide_eq_false hno, m135f]
          rfl
theorem op15 (h : Sim k W) : ∃ v B o, F_95 W = some (v, B) ∧ F_169 B.md = some (v, o) ∧ Sim (k + 7) (B.w_md o) := by
  obtain ⟨y, hy, y1, y2⟩ := md_thrown W.md 0
  obtain ⟨n, E, pl, sc, tg, wt, pr, ⟨qB, qP, qS, qD, rM, rP, rS, r13, hG, hC, hO, h9⟩, hol, hfc, hd⟩ := h.op y2
  have hn := hG.2.1
  have h1 := hG.1
  have hE := hG.E_lt
  have h31 : ∀ v, v < 6 → pl v < 2 ^ 31 := fun v hv => by have := h9 v hv; omega
  obtain ⟨B', b1, b2⟩ := c2 W.saved W.board
  obtain ⟨C', c1, c2', c3⟩ := m163 (N1 := 93) (N2 := 93) y.now y.saved (i0 := 0) (j0 := 0) (by decide) (by decide) (by decide) (by decide)
  obtain ⟨z, hz, d1, d2, d3, d4, d5, d6, d7, d8, d9⟩ := md_sav y C'
  obtain ⟨o, ho, e1, e2, e3, e4, e5, e6, e7, e8, e9⟩ := md_isS z 1
  obtain ⟨X, hX⟩ : ∃ X, (W.w_saved B').w_pp (W.pp.w_hasSaved 1) = X := ⟨_, rfl⟩
  have x1 : X.pp = W.pp.w_hasSaved 1 := by subst hX; rfl
  have x2 : X.board = W.board := by subst hX; rfl
  have x3 : X.saved = B' := by subst hX; rfl
  have x4 : X.hist = W.hist := by subst hX; rfl
  have x5 : X.inp = W.inp := by subst hX; rfl
  have x6 : X.md = W.md := by subst hX; rfl
  have x7 : X.dyn = W.dyn := by subst hX; rfl
  have x8 : X.kc = W.kc := by subst hX; rfl
  have x9 : X.kn = W.kn := by subst hX; rfl
  have x10 : X.ol = W.ol := by subst hX; rfl
  have x11 : X.fps = W.fps := by subst hX; rfl
  refine ⟨nI n, X, o, ?_, ?_, ?_⟩
  · unfold F_95
    rw [b1, Option.bind_some, Option.bind_some, Option.bind_some, Option.bind_some]
    show some (W.board.vertices, (W.w_saved B').w_pp (W.pp.w_hasSaved 1)) = _
    rw [hX, qB.1]
  · rw [x6]
    unfold F_169
    rw [hy, Option.bind_some, show F_163 93 93 y.now y.saved 0 0 = some C' from c1, Option.bind_some, hz, Option.bind_some, ho, Option.bind_some, show ix 0 93 = some 0 from rfl, Option.bind_some, e1, d1, rM.1]
  · obtain ⟨⟨b, len, s1, s2⟩, s3, ⟨s4, s5⟩, s6, s7, s8, s9, s10⟩ := h
    obtain ⟨m1, m2, m3, m4, m5, m6, m7, m8⟩ := y2
    obtain ⟨V, hV, v1, v2, v3, v4, v5, v6, v7, v8, v9, v10, v11⟩ := md_w X o
    rw [hV]
    refine ⟨⟨b, len, by rw [v5, x5]; exact s1, ?_⟩, ?_, ⟨?_, .inr ⟨?_, ?_⟩⟩, ?_, ?_, by rw [v10, x10]; exact s8, s9.dy (v11.trans x11) (v7.trans x7), s10.up (c := 0) (by rw [v8, x8]; omega) (by rw [v9, x9]; omega) (by rw [v7, x7]; omega) (by decide)⟩
    · rw [v6]
      exact ⟨e9.trans (d9.trans (m8.trans s2.1)), s2.2.1, fun i hi => by rw [e8, d8, m7]; exact s2.2.2 i hi⟩
    · rw [v2, x2, v6, e1, d1, m1]; exact s3
    · rw [v1, x1, v6, e7]; rfl
    · rw [v6, e7]
    · rw [v3, x3, v6]
      refine (b2 _ s3).row fun j hj => ?_
      have := c2' j hj
      rw [Nat.zero_add] at this
      rw [e3, d3, this, m1]
    · rw [v1, x1, v6, e6, d6, m5]; exact s6
    · rw [v6, e4, d4, m3, e5, d5, m4]
      exact s7.mono (v4.trans x4) fun b B q => by rw [bd_dyn (v7.trans x7)]; exact q
theorem op16 (h : Sim k W) : Ans k (F_276 W) (fun M => F_170 M) := by
  obtain ⟨y, hy, y1, y2⟩ := md_thrown W.md 0
  obtain ⟨n, E, pl, sc, tg, wt, pr, ⟨qB, qP, qS, qD, rM, rP, rS, r13, hG, hC, hO, h9⟩, hol, hfc, hd⟩ := h.op y2
  have hn := hG.2.1
  have h1 := hG.1
  have hE := hG.E_lt
  have h31 : ∀ v, v < 6 → pl v < 2 ^ 31 := fun v hv => by have := h9 v hv; omega
  obtain ⟨⟨b, len, s1, s2⟩, s3, ⟨s4, s5⟩, s6, s7, s8, s9, s10⟩ := id h
  obtain ⟨m1, m2, m3, m4, m5, m6, m7, m8⟩ := id y2
  rcases s5 with s5 | ⟨s5, sp⟩
  · refine ans_no (v := 1) (B := W.thr) (u := 0) (o := y.w_thrown 1) (by decide) ?_ ?_ rfl (h.ex y2 1)
    · unfold F_276 F_96
      rw [s4, s5, if_neg (fun z => z rfl)]
      rfl
    · show F_170 W.md = _
      unfold F_170
      rw [hy, Option.bind_some, m6, s5]
      rfl
  · obtain ⟨B', b1, b2⟩ := c2 W.board W.saved
    obtain ⟨C', c1, c2', c3⟩ := m163 (N1 := 93) (N2 := 93) y.saved y.now (i0 := 0) (j0 := 0) (by decide) (by decide) (by decide) (by decide)
    obtain ⟨z, hz, d1, d2, d3, d4, d5, d6, d7, d8, d9⟩ := md_now y C'
    obtain ⟨o, ho, e1, e2, e3, e4, e5, e6, e7, e8, e9⟩ := md_ent z 0
    have hsp : SP B' o.now := (b2 _ sp).row fun j hj => by
      have := c2' j hj
      rw [Nat.zero_add] at this
      rw [e1, d1, this, m2]
    obtain ⟨n', E', pl', sc', tg', wt', pr', w⟩ := id hsp
    obtain ⟨X, hX⟩ : ∃ X, (W.w_board B').w_hist (W.hist.w_size 0) = X := ⟨_, rfl⟩
    have x1 : X.pp = W.pp := by subst hX; rfl
    have x2 : X.board = B' := by subst hX; rfl
    have x3 : X.saved = W.saved := by subst hX; rfl
    have x4 : X.hist = W.hist.w_size 0 := by subst hX; rfl
    have x5 : X.inp = W.inp := by subst hX; rfl
    have x6 : X.md = W.md := by subst hX; rfl
    have x7 : X.dyn = W.dyn := by subst hX; rfl
    have x8 : X.kc = W.kc := by subst hX; rfl
    have x9 : X.kn = W.kn := by subst hX; rfl
    have x10 : X.ol = W.ol := by subst hX; rfl
    have x11 : X.fps = W.fps := by subst hX; rfl
    refine ans_ok (B := X) (u := nI n') (o := o) ?_ ?_ (e2.trans (d2.trans y1)) ?_
    · have e : F_96 W = some (.inl (nI n'), X) := by
        unfold F_96
        rw [s4, s5, if_pos (by decide), b1, Option.bind_some, Option.bind_some]
        unfold F_49
        rw [Option.bind_some, Option.bind_some, Option.bind_some]
        show some (Sum.inl B'.vertices, (W.w_board B').w_hist (W.hist.w_size 0)) = _
        rw [hX, w.1.1]
      unfold F_276
      rw [e]
      rfl
    · rw [x6]
      show F_170 W.md = _
      unfold F_170
      rw [hy, Option.bind_some, m6, s5, show F_135 y 1 1 = some (0, y) from rfl, Option.bind_some]
      dsimp only
      rw [if_pos rfl, show F_163 93 93 y.saved y.now 0 0 = some C' from c1, Option.bind_some, hz, Option.bind_some, ho, Option.bind_some, show ix 0 93 = some 0 from rfl, Option.bind_some, w.2.2.2.2.1.1]
    · obtain ⟨V, hV, v1, v2, v3, v4, v5, v6, v7, v8, v9, v10, v11⟩ := md_w X o
      rw [hV]
      refine ⟨⟨b, len, by rw [v5, x5]; exact s1, ?_⟩, ?_, ⟨?_, .inr ⟨?_, ?_⟩⟩, ?_, ?_, by rw [v10, x10]; exact s8, s9.dy (v11.trans x11) (v7.trans x7), s10.up (c := 0) (by rw [v8, x8]; omega) (by rw [v9, x9]; omega) (by rw [v7, x7]; omega) (by decide)⟩
      · rw [v6]
        exact ⟨e9.trans (d9.trans (m8.trans s2.1)), s2.2.1, fun i hi => by rw [e8, d8, m7]; exact s2.2.2 i hi⟩
      · rw [v2, x2, v6]; exact hsp
      · rw [v1, x1, v6, e7, d7, m6]; exact s4
      · rw [v6, e7, d7, m6]; exact s5
      · rw [v3, x3, v6, e3, d3, m2]; exact sp
      · rw [v1, x1, v6, e6, d6, m5]; exact s6
      · rw [v6, e4, d4, m3, e5, v4, x4]
        exact HH.mono (HH.zero s7) rfl fun c B q => by rw [bd_dyn (v7.trans x7)]; exact q
theorem op13 (h : Sim k W) : Ans k (F_275 W) (fun M => F_167 M) := by
  obtain ⟨y, hy, y1, y2⟩ := md_thrown W.md 0
  obtain ⟨n, E, pl, sc, tg, wt, pr, ⟨qB, qP, qS, qD, rM, rP, rS, r13, hG, hC, hO, h9⟩, hol, hfc, hd⟩ := h.op y2
  have hn := hG.2.1
  have h1 := hG.1
  have hE := hG.E_lt
  have h31 : ∀ v, v < 6 → pl v < 2 ^ 31 := fun v hv => by have := h9 v hv; omega
  obtain ⟨⟨b, len, s1, s2⟩, s3, ⟨s4, s5⟩, s6, s7, s8, s9, s10⟩ := id h
  obtain ⟨m1, m2, m3, m4, m5, m6, m7, m8⟩ := id y2
  obtain ⟨j, o, a1, a2, a3, a4, a5, a6, a7, a8⟩ := id s7
  cases j with
  | zero =>
    refine ans_no (v := 1) (B := W.thr) (u := 0) (o := y.w_thrown 1) (by decide) ?_ ?_ rfl (h.ex y2 1)
    · unfold F_275 F_93
      rw [a3, if_neg (fun z => z rfl)]
      rfl
    · show F_167 W.md = _
      unfold F_167
      rw [hy, Option.bind_some, m4, a4, if_pos (by decide)]
      rfl
  | succ j =>
    obtain ⟨a, B, b1, b2, b3⟩ := a8 j (by omega)
    obtain ⟨X, hX, f1, f2, f3, f4, f5, f6, f7, f8, f9, f10, f11, f12, f13, f14⟩ := c51 a3 (by omega) a5 a2 b1 b2
    obtain ⟨z, hz, d1, d2, d3, d4, d5, d6, d7, d8, d9⟩ := md_ent y (nI j)
    obtain ⟨C', c1, c2', c3⟩ := m163 (N1 := 930) (N2 := 93) z.history z.now (i0 := 93 * j) (j0 := 0) (by omega) (by decide) (by decide) (by decide)
    obtain ⟨o', ho, e1, e2, e3, e4, e5, e6, e7, e8, e9⟩ := md_now z C'
    have hsp : SP X.board o'.now := f1 _ (b3.row fun i hi => by
      have := c2' i hi
      rw [Nat.zero_add] at this
      rw [e1, this, d4, m3])
    refine ans_ok (B := X) (u := nI j) (o := o') ?_ ?_ (e2.trans (d2.trans y1)) ?_
    · have e : F_93 W = some (.inl (nI j), X) := by
        unfold F_93
        rw [a3, if_pos (nI_ne0 (by omega) (by omega)), hX, Option.bind_some, f3]
      unfold F_275
      rw [e]
      rfl
    · rw [f10]
      show F_167 W.md = _
      unfold F_167
      rw [hy, Option.bind_some, m4, a4, if_neg (show ¬ nI (j + 1) ≤ (0 : Int32) from nI_ge (a := 0) (by omega) (by omega))]
      unfold J_167_0_j18
      rw [show F_135 y 1 1 = some (0, y) from rfl, Option.bind_some]
      dsimp only
      rw [if_pos rfl, m4, a4, show nI (j + 1) - 1 = nI j by rw [z1, pk_sub (by omega), Nat.add_sub_cancel], hz, Option.bind_some, d5, show (93 : Int32) = nI 93 from rfl, pk_mul, show F_163 930 93 z.history z.now (nI (93 * j)) 0 = some C' from c1, Option.bind_some, ho, Option.bind_some, e5, d5]
    · obtain ⟨V, hV, v1, v2, v3, v4, v5, v6, v7, v8, v9, v10, v11⟩ := md_w X o'
      rw [hV]
      refine ⟨⟨b, len, by rw [v5, f7]; exact s1, ?_⟩, ?_, ⟨?_, ?_⟩, ?_, ?_, by rw [v10, f8]; exact s8, s9.dy (v11.trans f9) (v7.trans f12), s10.up (c := 0) (by rw [v8, f13]; omega) (by rw [v9, f14]; omega) (by rw [v7, f12]; omega) (by decide)⟩
      · rw [v6]
        exact ⟨e9.trans (d9.trans (m8.trans s2.1)), s2.2.1, fun i hi => by rw [e8, d8, m7]; exact s2.2.2 i hi⟩
      · rw [v2, v6]; exact hsp
      · rw [v1, f5, v6, e7, d7, m6]; exact s4
      · rw [v6, e7, d7, m6, e3, d3, m2, v3, f6]; exact s5
      · rw [v1, f5, v6, e6, d6, m5]; exact s6
      · rw [v6, e4, d4, m3, e5, d5, v4]
        refine ⟨j, o, by omega, a2, f3, rfl, f4, fun i c hi hc => ?_, fun i i' c hi hi' h1 h2 => ?_, fun i hi => ?_⟩
        · rw [f2] at hc
          rw [bd_dyn (v7.trans f12)]
          exact a6 i c hi hc
        · rw [f2] at h1 h2
          exact a7 i i' c hi hi' h1 h2
        · obtain ⟨c, C, g1, g2, g3⟩ := a8 i (by omega)
          exact ⟨c, C, by rw [f2]; exact g1, by rw [bd_dyn (v7.trans f12)]; exact g2, g3⟩
end SV
