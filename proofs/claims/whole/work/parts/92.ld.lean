/-! ===== LOADING ===== -/
section LD
variable {k : Nat} {W : Wd}
theorem op2 (h : Sim k W) : ∃ v B o, F_82 W = some (v, B) ∧ F_162 B.md = some (v, o) ∧ Sim (k + 7) (B.w_md o) := by
  obtain ⟨⟨b, len, hT, hM⟩, hr⟩ := id h
  obtain ⟨y, hy, y1, y2⟩ := md_thrown W.md 0
  obtain ⟨x, T', M', e1, e2, e3, -⟩ := p72 hT (hM.mo y2)
  obtain ⟨X, hX, a1, a2, a3, a4, a5, a6, a7, a8, a9, a10, a11⟩ := inp_f W T'
  refine ⟨x, X, M', ?_, ?_, h.inp (c := 0) (b := b) (len := len) (by rw [a5]; exact ⟨e3.1.trans hT.1, hT.2.1, fun i hi => by rw [e3.2.1]; exact hT.2.2 i hi⟩) ((hM.mo y2).of e3.2.2) (y2.mc.tr e3.2.2.mo.1.mc) a1 a2 a3 a4 a7 (by omega) (by omega) a10 a11 (by decide)⟩
  · unfold F_82
    rw [e1, Option.bind_some]
    show (some (W.w_inp T')).bind _ = _
    rw [hX]
    rfl
  · rw [a6]
    unfold F_162
    rw [hy, Option.bind_some, e2]
    rfl
/-- a copy of what was read -/
theorem c2p (B O : Bd) : ∃ B', F_2 B O = some B' ∧ (∀ n E, CB n E O → CB n E B') ∧ (∀ pl, CP pl O → CP pl B') ∧ (∀ n sc tg wt pr, n ≤ 6 → sc ≤ 6 → CS n sc tg wt pr O → CS n sc tg wt pr B') ∧ B'.moveCount = O.moveCount := by
  refine ⟨_, rfl, fun n E a1 => ⟨a1.1, a1.2⟩, fun pl a2 v hv => ?_, fun n sc tg wt pr h6 s6 a3 => ⟨a3.1, fun k hk => ⟨?_, fun v hv => ⟨?_, ?_⟩⟩⟩, rfl⟩
  · show va_cpy O.pile B.pile 0 0 6 v = _
    unfold va_cpy
    rw [if_pos ⟨Nat.zero_le _, by omega⟩, Nat.zero_add, Nat.sub_zero]
    exact a2 v hv
  · show va_cpy O.targets B.targets 0 0 6 k = _
    unfold va_cpy
    rw [if_pos ⟨Nat.zero_le _, by omega⟩, Nat.zero_add, Nat.sub_zero]
    exact (a3.2 k hk).1
  · show va_cpy O.weights B.weights 0 0 36 (6 * k + v) = _
    unfold va_cpy
    rw [if_pos ⟨Nat.zero_le _, by omega⟩, Nat.zero_add, Nat.sub_zero]
    exact ((a3.2 k hk).2 v hv).1
  · show va_cpy O.parents B.parents 0 0 36 (6 * k + v) = _
    unfold va_cpy
    rw [if_pos ⟨Nat.zero_le _, by omega⟩, Nat.zero_add, Nat.sub_zero]
    exact ((a3.2 k hk).2 v hv).2
theorem HH.zero {h : Hs} {bd : Nat → Option Bd} {H H' : Nat → Int32} {e : Int32} (q : HH h bd H e) : HH (h.w_size 0) bd H' 0 := by
  obtain ⟨k, o, a1, a2, a3, a4, a5, a6, a7, a8⟩ := q
  exact ⟨0, o, by decide, a2, rfl, rfl, a5, a6, a7, fun i hi => absurd hi (Nat.not_lt_zero _)⟩
theorem bd_dist (B : Bd) (f : Nat → Int32) : ∃ y, B.w_distances f = y ∧ y.vertices = B.vertices ∧ y.edges = B.edges ∧ y.moveCount = B.moveCount ∧ y.strategyCount = B.strategyCount ∧ y.pile = B.pile ∧ y.targets = B.targets ∧ y.weights = B.weights ∧ y.parents = B.parents ∧ y.distances = f := ⟨_, rfl, rfl, rfl, rfl, rfl, rfl, rfl, rfl, rfl, rfl⟩
theorem md_isS (M : Md) (x : Int32) : ∃ y, M.w_isSaved x = y ∧ y.now = M.now ∧ y.thrown = M.thrown ∧ y.saved = M.saved ∧ y.history = M.history ∧ y.entries = M.entries ∧ y.reason = M.reason ∧ y.isSaved = x ∧ y.buffer = M.buffer ∧ y.length = M.length := ⟨_, rfl, rfl, rfl, rfl, rfl, rfl, rfl, rfl, rfl, rfl⟩
theorem md_rea (M : Md) (x : Int32) : ∃ y, M.w_reason x = y ∧ y.now = M.now ∧ y.thrown = M.thrown ∧ y.saved = M.saved ∧ y.history = M.history ∧ y.entries = M.entries ∧ y.reason = x ∧ y.isSaved = M.isSaved ∧ y.buffer = M.buffer ∧ y.length = M.length := ⟨_, rfl, rfl, rfl, rfl, rfl, rfl, rfl, rfl, rfl, rfl⟩
theorem md_sav (M : Md) (x : Nat → Int32) : ∃ y, M.w_saved x = y ∧ y.now = M.now ∧ y.thrown = M.thrown ∧ y.saved = x ∧ y.history = M.history ∧ y.entries = M.entries ∧ y.reason = M.reason ∧ y.isSaved = M.isSaved ∧ y.buffer = M.buffer ∧ y.length = M.length := ⟨_, rfl, rfl, rfl, rfl, rfl, rfl, rfl, rfl, rfl, rfl⟩
theorem m164 (M : Md) : ∃ M', F_164 M = some M' ∧ (∀ j, j < 93 → M'.now j = M.read j) ∧ M'.entries = 0 ∧ M'.isSaved = 0 ∧ M'.reason = 0 ∧ M'.thrown = M.thrown ∧ M'.buffer = M.buffer ∧ M'.length = M.length := by
  obtain ⟨C', e, q1, q2⟩ := m163 (N1 := 93) (N2 := 93) M.read M.now (i0 := 0) (j0 := 0) (by decide) (by decide) (by decide) (by decide)
  obtain ⟨A, hA, a1, a2, a3, a4, a5, a6, a7, a8, a9⟩ := md_now M C'
  obtain ⟨B, hB, b1, b2, b3, b4, b5, b6, b7, b8, b9⟩ := md_ent A 0
  obtain ⟨C, hC, c1, c2, c3, c4, c5, c6, c7, c8, c9⟩ := md_isS B 0
  obtain ⟨D, hD, d1, d2, d3, d4, d5, d6, d7, d8, d9⟩ := md_rea C 0
  refine ⟨D, ?_, fun j hj => ?_, d5.trans (c5.trans b5), d7.trans c7, d6, d2.trans (c2.trans (b2.trans a2)), d8.trans (c8.trans (b8.trans a8)), d9.trans (c9.trans (b9.trans a9))⟩
  · unfold F_164
    rw [show F_163 93 93 M.read M.now 0 0 = some C' from e, Option.bind_some, hA, Option.bind_some, hB, Option.bind_some, hC, Option.bind_some, hD]
    rfl
  · rw [d1, c1, b1, a1]
    have := q1 j hj
    rw [Nat.zero_add] at this
    exact this
theorem op3 (h : Sim k W) : Ans k (F_265 W) (fun M => F_165 M) := by
  obtain ⟨⟨b, len, hT, hM⟩, hr⟩ := id h
  obtain ⟨y, hy, y1, y2⟩ := md_thrown W.md 0
  have h4 := hM.2.1
  obtain ⟨x, T', M', e1, e2, e3, e4⟩ := p72 hT (hM.mo y2)
  have mo := e3.2.2.mo
  have hTT : TX b len T' := ⟨e3.1.trans hT.1, hT.2.1, fun i hi => by rw [e3.2.1]; exact hT.2.2 i hi⟩
  have hMM : MX b len M' := (hM.mo y2).of e3.2.2
  obtain ⟨X, hX, a1, a2, a3, a4, a5, a6, a7, a8, a9, a10, a11⟩ := inp_f W T'
  rcases e4 with ⟨rfl, n, E, pl, sc, tg, wt, pr, hR, hpc⟩ | ⟨e, he, rfl⟩
  · obtain ⟨r1, r2, r3, r4, r5, r6, r7, r8, r9, r10, r11⟩ := hR
    have hn := r9.2.1
    have hcn : Cn n E := Cn_pcn.1 hpc
    obtain ⟨B', q0, q1, q2, q3, q4⟩ := c2p X.board T'.draft
    obtain ⟨f, f1, f2⟩ := c13 (q1 n E r1) r9 hcn
    obtain ⟨D, hD, d1, d2, d3, d4, d5, d6, d7, d8, d9⟩ := bd_dist B' f
    rw [hD] at f1 f2
    obtain ⟨z, z1', z2', z3', z4', z5', z6', z7', z8'⟩ := m164 M'
    obtain ⟨L, hL, l1, l2, l3⟩ := md_len z 0
    obtain ⟨Y, hY⟩ : ∃ Y, ((((X.w_board B').w_board D).w_hist (X.hist.w_size 0)).w_pp ((X.pp.w_hasSaved 0).w_refusal 0)).w_inp (T'.w_length 0) = Y := ⟨_, rfl⟩
    have b1 : Y.board = D := by subst hY; rfl
    have b2 : Y.hist = X.hist.w_size 0 := by subst hY; rfl
    have b3 : Y.pp = (X.pp.w_hasSaved 0).w_refusal 0 := by subst hY; rfl
    have b4 : Y.inp = T'.w_length 0 := by subst hY; rfl
    have b5 : Y.dyn = X.dyn := by subst hY; rfl
    have b6 : Y.kc = X.kc := by subst hY; rfl
    have b7 : Y.kn = X.kn := by subst hY; rfl
    have b8 : Y.ol = X.ol := by subst hY; rfl
    have b9 : Y.fps = X.fps := by subst hY; rfl
    have b10 : Y.md = X.md := by subst hY; rfl
    have b11 : Y.saved = X.saved := by subst hY; rfl
    have hv : D.vertices = nI n := d1.trans (q1 n E r1).1
    refine ans_ok (B := Y) (u := nI n) (o := L) ?_ ?_ ?_ ?_
    · have e : F_83 W = some (.inl (nI n), Y) := by
        unfold F_83
        rw [e1, Option.bind_some]
        show (some (W.w_inp T')).bind _ = _
        rw [hX, Option.bind_some, if_pos rfl, a5, q0, Option.bind_some, Option.bind_some]
        show (F_13 B').bind _ = _
        rw [f1, Option.bind_some, Option.bind_some]
        unfold F_49
        rw [Option.bind_some, Option.bind_some, Option.bind_some, Option.bind_some, Option.bind_some, Option.bind_some, Option.bind_some, Option.bind_some, Option.bind_some]
        rw [← hv, ← b1, ← hY, ← a5]
        rfl
      unfold F_265
      rw [e]
      rfl
    · rw [b10, a6]
      show F_165 W.md = _
      unfold F_165
      rw [hy, Option.bind_some, e2, Option.bind_some]
      show (if (0 : Int32) ≤ -1 then J_165_0_j18 M' 0 else J_165_0_j18 M' 1) = _
      rw [if_neg (by decide)]
      unfold J_165_0_j18
      rw [show F_135 M' 1 1 = some (0, M') from rfl, Option.bind_some]
      show (if (0 : Int32) = 0 then (F_164 M').bind _ else _) = _
      rw [if_pos rfl, z1', Option.bind_some, hL, Option.bind_some, show ix 0 93 = some 0 from rfl, Option.bind_some, l3.1, z2' 0 (by decide), r5.1]
    · rw [l3.2.2.2.2.2.2, z6', mo.2, y1]
    · obtain ⟨-, s3, ⟨s4, s5⟩, s6, s7, s8, s9, s10⟩ := h
      obtain ⟨V, hV, v1, v2, v3, v4, v5, v6, v7, v8, v9, v10, v11⟩ := md_w Y L
      rw [hV]
      have hsp : SP D M'.read := ⟨n, E, pl, sc, tg, wt, pr, ⟨hv, d2.trans (q1 n E r1).2⟩, fun v hv => by rw [d5]; exact q2 pl r2 v hv, ⟨d4.trans (q3 n sc tg wt pr hn r10.1 r4).1, fun k hk => by rw [d6, d7, d8]; exact (q3 n sc tg wt pr hn r10.1 r4).2 k hk⟩, f2, r5, r6, r8, by rw [r7, d3, q4, r3], r9, hcn, r10, r11⟩
      refine ⟨⟨b, 0, ?_, ?_⟩, ?_, ⟨?_, ?_⟩, ?_, ?_, by rw [v10, b8, a10]; exact s8, s9.dy (v11.trans (b9.trans a11)) (v7.trans (b5.trans a7)), s10.up (c := 0) (by rw [v8, b6, a8]; omega) (by rw [v9, b7, a9]; omega) (by rw [v7, b5, a7]; omega) (by decide)⟩
      · rw [v5, b4]
        exact ⟨rfl, by decide, fun i hi => absurd hi (Nat.not_lt_zero _)⟩
      · rw [v6]
        exact ⟨l2, by decide, fun i hi => absurd hi (Nat.not_lt_zero _)⟩
      · rw [v2, b1, v6]
        exact hsp.row fun j hj => by rw [l3.1]; exact z2' j hj
      · rw [v1, b3, v6, l3.2.2.2.2.2.1, z4']; rfl
      · rw [v6, l3.2.2.2.2.2.1, z4']; exact .inl rfl
      · rw [v1, b3, v6, l3.2.2.2.2.1, z5']; rfl
      · rw [v6, l3.2.2.2.1, z3', v4, b2, a4]
        exact HH.mono (HH.zero s7) rfl fun c B q => by rw [bd_dyn (v7.trans (b5.trans a7))]; exact q
  · obtain ⟨z, hz, z1', z2'⟩ := md_thrown M' 1
    obtain ⟨Y, hY, b1, b2, b3, b4, b5, b6, b7, b8, b9, b10, b11⟩ := thr_f X
    refine ans_no (v := 1) (B := Y) (u := 0) (o := z) (by decide) ?_ ?_ z1' (h.inp (c := 1) (by rw [b5, a5]; exact hTT) (hMM.mo z2') ((y2.mc.tr mo.1.mc).tr z2'.mc) (b1.trans a1) (b2.trans a2) (b3.trans a3) (b4.trans a4) (b7.trans a7) (by omega) (by omega) (b10.trans a10) (b11.trans a11) (by decide))
    · have e : F_83 W = some (.inr 1, Y) := by
        unfold F_83
        rw [e1, Option.bind_some]
        show (some (W.w_inp T')).bind _ = _
        rw [hX, Option.bind_some, if_neg (nI_m1 (by omega)), hY]
      unfold F_265
      rw [e]
      rfl
    · rw [b6, a6]
      show F_165 W.md = _
      unfold F_165
      rw [hy, Option.bind_some, e2, Option.bind_some]
      show (if (0 : Int32) ≤ nI e then J_165_0_j18 M' 0 else J_165_0_j18 M' 1) = _
      rw [if_pos (nI_pos' (by omega))]
      unfold J_165_0_j18
      rw [show F_135 M' 0 1 = some (1, M'.w_thrown 1) from rfl, hz, Option.bind_some]
      rfl
end LD
