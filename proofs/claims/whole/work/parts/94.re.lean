/-! ===== MORE READING CALLS ===== -/
section RE
variable {k : Nat} {W : Wd}
theorem xq_l {α β : Type} {a : α} {f : Nat → Option β} {g : α → Option β} : xq (.inl a) f g = g a := rfl
theorem op14 (h : Sim k W) : ∃ v o, F_94 W = some v ∧ F_168 W.md = some (v, o) ∧ Sim (k + 7) (W.w_md o) := by
  obtain ⟨y, hy, y1, y2⟩ := md_thrown W.md 0
  obtain ⟨n, E, pl, sc, tg, wt, pr, -, hol, hfc, hd⟩ := h.op y2
  obtain ⟨s2, s3, s4, s6, ⟨j, o, a1, a2, a3, a4, a5⟩, s8⟩ := id h
  refine ⟨nI j, y, ?_, ?_, h.read (RG.rf hol hfc) (by decide) y2⟩
  · unfold F_94; rw [a3]
  · unfold F_168
    rw [hy, Option.bind_some, y2.2.2.2.1, a4]
theorem op17 (h : Sim k W) : ∃ v o, F_97 W = some v ∧ F_171 W.md = some (v, o) ∧ Sim (k + 7) (W.w_md o) := by
  obtain ⟨y, hy, y1, y2⟩ := md_thrown W.md 0
  obtain ⟨n, E, pl, sc, tg, wt, pr, -, hol, hfc, hd⟩ := h.op y2
  obtain ⟨s2, s3, s4, s6, s8⟩ := id h
  refine ⟨W.md.reason, y, ?_, ?_, h.read (RG.rf hol hfc) (by decide) y2⟩
  · unfold F_97; rw [s6]
  · unfold F_171
    rw [hy, Option.bind_some, y2.2.2.2.2.1]
theorem op18 (h : Sim k W) (x : Int32) : Ans k (F_277 W x) (fun M => F_199 M x) := by
  obtain ⟨y, hy, y1, y2⟩ := md_thrown W.md 0
  obtain ⟨n, E, pl, sc, tg, wt, pr, ⟨qB, qP, qS, qD, rM, rP, rS, r13, hG, hC, hO, h9⟩, hol, hfc, hd⟩ := h.op y2
  have hn := hG.2.1
  have good : ∀ u o, F_98 W x = some (.inl u, W) → F_199 W.md x = some (u, o) → o.thrown = 0 → MO y o → Ans k (F_277 W x) (fun M => F_199 M x) := by
    intro u o e1 e2 e3 e4
    refine ans_ok (B := W) (u := u) (o := o) ?_ e2 e3 (h.read (RG.rf hol hfc) (by decide) (y2.tr e4))
    unfold F_277
    rw [e1]
    rfl
  have c : F_98 W x = (if x = 0 then some (.inl W.board.vertices, W) else if x = 1 then (F_7 W.board).bind fun v4 => some (.inl v4, W) else if x = 2 then (F_22 W.board).bind fun v7 => some (.inl v7, W) else if x = 3 then some (.inl W.board.moveCount, W) else if x = 4 then some (.inl W.board.strategyCount, W) else if x = 5 then (F_18 W.board).bind fun v12 => some (.inl v12, W) else some (.inr 1, W.thr)) := rfl
  by_cases h0 : x = 0
  · subst h0
    refine good (nI n) y (by rw [c, if_pos rfl, qB.1]) ?_ y1 (MO.rf y)
    unfold F_199
    rw [hy, Option.bind_some, if_pos rfl, show ix 0 93 = some 0 from rfl, Option.bind_some, rM.1]
  by_cases h1 : x = 1
  · subst h1
    refine good (nI (ec n E)) y (by rw [c, if_neg h0, if_pos rfl, c7 qB hG]; rfl) ?_ y1 (MO.rf y)
    unfold F_199
    rw [hy, Option.bind_some, if_neg h0, if_pos rfl, m178 rM hG]
    rfl
  by_cases h2 : x = 2
  · subst h2
    refine good (nI (sm pl n)) y (by rw [c, if_neg h0, if_neg h1, if_pos rfl, c22 qB qP hn]; rfl) ?_ y1 (MO.rf y)
    unfold F_199
    rw [hy, Option.bind_some, if_neg h0, if_neg h1, if_pos rfl, m179 rM rP hn]
    rfl
  by_cases h3 : x = 3
  · subst h3
    refine good W.board.moveCount y (by rw [c, if_neg h0, if_neg h1, if_neg h2, if_pos rfl]) ?_ y1 (MO.rf y)
    unfold F_199
    rw [hy, Option.bind_some, if_neg h0, if_neg h1, if_neg h2, if_pos rfl, show ix 13 93 = some 13 from rfl, Option.bind_some, r13]
  by_cases h4 : x = 4
  · subst h4
    refine good (nI sc) y (by rw [c, if_neg h0, if_neg h1, if_neg h2, if_neg h3, if_pos rfl, qS.1]) ?_ y1 (MO.rf y)
    unfold F_199
    rw [hy, Option.bind_some, if_neg h0, if_neg h1, if_neg h2, if_neg h3, if_pos rfl, show ix 14 93 = some 14 from rfl, Option.bind_some, rS.1]
  by_cases h5 : x = 5
  · subst h5
    obtain ⟨f, f1⟩ := m198 rM hG hC
    refine good (nI (dia n E)) (y.w_distances f) (by rw [c, if_neg h0, if_neg h1, if_neg h2, if_neg h3, if_neg h4, if_pos rfl, c18 qB qD hG]; rfl) ?_ y1 ⟨rfl, rfl, rfl, rfl, rfl, rfl, rfl, rfl⟩
    unfold F_199
    rw [hy, Option.bind_some, if_neg h0, if_neg h1, if_neg h2, if_neg h3, if_neg h4, if_pos rfl, f1]
    rfl
  · refine ans_no (v := 1) (B := W.thr) (u := 0) (o := y.w_thrown 1) (by decide) ?_ ?_ rfl (h.ex y2 1)
    · unfold F_277
      rw [c, if_neg h0, if_neg h1, if_neg h2, if_neg h3, if_neg h4, if_neg h5]
      rfl
    · show F_199 W.md x = _
      unfold F_199
      rw [hy, Option.bind_some, if_neg h0, if_neg h1, if_neg h2, if_neg h3, if_neg h4, if_neg h5]
      rfl
theorem op21 (h : Sim k W) (hk : k < 90000) (x : Int32) : Ans k (F_280 W x) (fun M => F_202 M x) := by
  obtain ⟨y, hy, y1, y2⟩ := md_thrown W.md 0
  obtain ⟨n, E, pl, sc, tg, wt, pr, ⟨qB, qP, qS, qD, rM, rP, rS, r13, hG, hC, hO, h9⟩, hol, hfc, hd⟩ := h.op y2
  have hn := hG.2.1
  have h1 := hG.1
  have hE := hG.E_lt
  have h31 : ∀ v, v < 6 → pl v < 2 ^ 31 := fun v hv => by have := h9 v hv; omega
  have e172 : F_172 y x = some (bI (isv n x)) := m172 rM.1 (by omega) (by omega) x
  cases hv : isv n x with
  | true =>
    obtain ⟨v, hv', rfl⟩ := isv_of (by omega) hv
    rw [hv] at e172
    obtain ⟨f, f1, f2, f3⟩ := m181 rM hG hC hv'
    have hDi : MDi n E (y.w_distances f) v := fun w hw => f2 w hw
    refine ans_ok (B := W) (u := nI (amx (ds n E v) (n - 1))) (o := y.w_distances f) ?_ ?_ y1 (h.read (RG.rf hol hfc) (by decide) (y2.tr ⟨rfl, rfl, rfl, rfl, rfl, rfl, rfl, rfl⟩))
    · have e : F_101 W (nI v) = some (.inl (nI (amx (ds n E v) (n - 1))), W) := by
        unfold F_101
        rw [c124t qB (by omega) hv']
        show (F_17 W.board (1 <<< (nI v &&& 31))).bind _ = _
        rw [c17f qB qD hG hC hv']
        rfl
      unfold F_280
      rw [e]
      rfl
    · show F_202 W.md (nI v) = _
      unfold F_202
      rw [hy, Option.bind_some, e172, Option.bind_some, m135t, Option.bind_some]
      dsimp only
      rw [if_pos rfl]
      show (F_181 y (nI v)).bind _ = _
      rw [f1, Option.bind_some, m202l (M := y.w_distances f) rM hDi hG hv']
      rfl
  | false =>
    rw [hv] at e172
    refine ans_no (v := 1) (B := W.thr) (u := 0) (o := y.w_thrown 1) (by decide) ?_ ?_ rfl (h.ex y2 1)
    · unfold F_280 F_101
      rw [c124f qB (by omega) hv]
      rfl
    · show F_202 W.md x = _
      unfold F_202
      rw [hy, Option.bind_some, e172, Option.bind_some, m135f]
      rfl
theorem op34 (h : Sim k W) (x : Int32) : Ans k (F_290 W x) (fun M => F_238 M x) := by
  obtain ⟨y, hy, y1, y2⟩ := md_thrown W.md 0
  obtain ⟨n, E, pl, sc, tg, wt, pr, ⟨qB, qP, qS, qD, rM, rP, rS, r13, hG, hC, hO, h9⟩, hol, hfc, hd⟩ := h.op y2
  have hn := hG.2.1
  have h1 := hG.1
  have hE := hG.E_lt
  have h31 : ∀ v, v < 6 → pl v < 2 ^ 31 := fun v hv => by have := h9 v hv; omega
  have e172 : F_172 y x = some (bI (isv n x)) := m172 rM.1 (by omega) (by omega) x
  cases hv : isv n x with
  | true =>
    obtain ⟨v, hv', rfl⟩ := isv_of (by omega) hv
    rw [hv] at e172
    have he : ec n E < 2 ^ 31 := by
      have h2 := ec_le (E := E) hn
      unfold ec
      omega
    by_cases ht : ec n E = n - 1
    · obtain ⟨par, hT⟩ := TR.mk hG hC hv' ht
      obtain ⟨M', m1, m2, m3, m4⟩ := m235 rM hT hG hC hv'
      have mm := m2.mo
      have rM' : MR n E M'.now := by rw [mm.1.1]; exact rM
      refine ans_ok (B := W) (u := nI (tn n E v par)) (o := M') ?_ ?_ (mm.2.trans y1) (h.read (RG.rf hol hfc) (by decide) (y2.tr mm.1))
      · have e : F_114 W (nI v) = some (.inl (nI (tn n E v par)), W) := by
          unfold F_114
          rw [c124t qB (by omega) hv', Option.bind_some]
          dsimp only
          rw [xq_l, c7 qB hG, Option.bind_some, qB.1, z1, pk_sub h1, if_pos (by rw [ht]), c19 qB qD hT hG hC hv']
          rfl
        unfold F_290
        rw [e]
        rfl
      · show F_238 W.md (nI v) = _
        unfold F_238
        rw [hy, Option.bind_some, e172, Option.bind_some, m135t, Option.bind_some]
        dsimp only
        rw [if_neg (show ¬ ¬ (0 : Int32) = 0 from fun z => z rfl)]
        show (F_178 y).bind _ = _
        rw [m178 rM hG, Option.bind_some, show ix 0 93 = some 0 from rfl, Option.bind_some, rM.1, z1, pk_sub h1, if_neg (fun z => z (by rw [ht]))]
        unfold J_238_0_j39
        rw [← z1, show F_135 y 1 2 = some (0, y) from rfl, Option.bind_some]
        dsimp only
        rw [if_pos rfl]
        show (F_235 y (nI v)).bind _ = _
        rw [m1, Option.bind_some, m238l rM' m3 m4 hT hG hv']
        rfl
    · have hne : ¬ nI (ec n E) = nI (n - 1) := by rw [nI_eq he (by omega)]; exact ht
      refine ans_no (v := 2) (B := W.thr) (u := 0) (o := y.w_thrown 2) (by decide) ?_ ?_ rfl (h.ex y2 2)
      · have e : F_114 W (nI v) = some (.inr 3, W.thr) := by
          unfold F_114
          rw [c124t qB (by omega) hv', Option.bind_some]
          dsimp only
          rw [xq_l, c7 qB hG, Option.bind_some, qB.1, z1, pk_sub h1, if_neg hne]
        unfold F_290
        rw [e]
        rfl
      · show F_238 W.md (nI v) = _
        unfold F_238
        rw [hy, Option.bind_some, e172, Option.bind_some, m135t, Option.bind_some]
        dsimp only
        rw [if_neg (show ¬ ¬ (0 : Int32) = 0 from fun z => z rfl)]
        show (F_178 y).bind _ = _
        rw [m178 rM hG, Option.bind_some, show ix 0 93 = some 0 from rfl, Option.bind_some, rM.1, z1, pk_sub h1, if_pos hne]
        rfl
  | false =>
    rw [hv] at e172
    refine ans_no (v := 1) (B := W.thr) (u := 0) (o := y.w_thrown 1) (by decide) ?_ ?_ rfl (h.ex y2 1)
    · unfold F_290 F_114
      rw [c124f qB (by omega) hv]
      rfl
    · show F_238 W.md x = _
      unfold F_238
      rw [hy, Option.bind_some, e172, Option.bind_some, m135f]
      rfl
theorem c121 {n E : Nat} (qB : CB n E W.board) (qD : CD n E W.board) (hG : Gr n E) : F_121 W = some (nI (mxl (stk n E) 0 n)) := by
  have hn := hG.2.1
  unfold F_121
  have e : lw (G_121_4 W) 200000 (0, 0) = some (nI (mxl (stk n E) 0 n)) := by
    refine lw_seq (fun i => (nI (mxl (stk n E) 0 i), nI i)) (n := n) (fun i hi => ?_) ?_ (by omega)
    · have k1 := mxl_le (f := stk n E) (b := 384) (Nat.zero_le _) (i := i) (fun j hj => stk_le hn n (Nat.le_refl _))
      have k2 : stk n E i ≤ 384 := stk_le hn n (Nat.le_refl _)
      simp only [G_121_4]
      rw [qB.1, if_neg (nI_ge hi (by omega)), c21 qB qD hG hi, Option.bind_some, imx_n (by omega) (by omega), nI_1, mxl]
    · simp only [G_121_4]
      rw [qB.1, if_pos (nI_le (Nat.le_refl _) (by omega))]
  rw [e]
  rfl
theorem m250l {n E : Nat} {M : Md} (rM : MR n E M.now) (hG : Gr n E) (hC : Cn n E) : ∃ M', lw (G_250_9) 200000 (0, 0, M) = some (nI (mxl (stk n E) 0 n), M') ∧ MO M M' ∧ M'.thrown = M.thrown := by
  have hn := hG.2.1
  have key := lw_for (f := G_250_9) (n := n) (fun i (s : Int32 × Int32 × Md) => s.1 = nI (mxl (stk n E) 0 i) ∧ s.2.1 = nI i ∧ MO M s.2.2 ∧ s.2.2.thrown = M.thrown) (Q := fun r => r.1 = nI (mxl (stk n E) 0 n) ∧ MO M r.2 ∧ r.2.thrown = M.thrown) ?_ ?_ (k := 200000) (s := ((0 : Int32), (0 : Int32), M)) ⟨rfl, rfl, MO.rf M, rfl⟩ (by omega)
  · obtain ⟨⟨a, M'⟩, e, rfl, q⟩ := key
    exact ⟨M', e, q⟩
  · rintro i ⟨a, c, X⟩ hi ⟨rfl, rfl, p3, p4⟩
    left
    have k1 := mxl_le (f := stk n E) (b := 384) (Nat.zero_le _) (i := i) (fun j hj => stk_le hn n (Nat.le_refl _))
    have k2 : stk n E i ≤ 384 := stk_le hn n (Nat.le_refl _)
    have rX : MR n E X.now := by rw [p3.1]; exact rM
    obtain ⟨f, f1⟩ := m248 rX hG hC hi
    refine ⟨(nI (mxl (stk n E) 0 (i + 1)), nI (i + 1), X.w_distances f), ?_, rfl, rfl, p3.tr ⟨rfl, rfl, rfl, rfl, rfl, rfl, rfl, rfl⟩, p4⟩
    simp only [G_250_9]
    rw [show ix 0 93 = some 0 from rfl, Option.bind_some, rX.1, if_neg (nI_ge hi (by omega)), f1, Option.bind_some]
    show some (Sum.inl (imx (nI (mxl (stk n E) 0 i)) (nI (stk n E i)), nI i + 1, X.w_distances f)) = _
    rw [imx_n (by omega) (by omega), nI_1, mxl]
  · rintro ⟨a, c, X⟩ ⟨rfl, rfl, p3, p4⟩
    have rX : MR n E X.now := by rw [p3.1]; exact rM
    refine ⟨(nI (mxl (stk n E) 0 n), X), ?_, rfl, p3, p4⟩
    simp only [G_250_9]
    rw [show ix 0 93 = some 0 from rfl, Option.bind_some, rX.1, if_pos (nI_le (Nat.le_refl _) (by omega))]
theorem op41 (h : Sim k W) : ∃ v o, F_121 W = some v ∧ F_250 W.md = some (v, o) ∧ Sim (k + 7) (W.w_md o) := by
  obtain ⟨y, hy, y1, y2⟩ := md_thrown W.md 0
  obtain ⟨n, E, pl, sc, tg, wt, pr, ⟨qB, qP, qS, qD, rM, rP, rS, r13, hG, hC, hO, h9⟩, hol, hfc, hd⟩ := h.op y2
  have hn := hG.2.1
  have h1 := hG.1
  have hE := hG.E_lt
  have h31 : ∀ v, v < 6 → pl v < 2 ^ 31 := fun v hv => by have := h9 v hv; omega
  obtain ⟨M', m1, m2, m3⟩ := m250l rM hG hC
  refine ⟨nI (mxl (stk n E) 0 n), M', c121 qB qD hG, ?_, h.read (RG.rf hol hfc) (by decide) (y2.tr m2)⟩
  unfold F_250
  rw [hy, Option.bind_some, m1]
  rfl
end RE
