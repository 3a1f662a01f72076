/-! ===== A VALID TEXT LOADED ===== -/
section LOAD
variable {W : Wd} {Q : Ps} {H : List Ps} {S : Option Ps} {r : Int32} {b : Nat → Nat} {len : Nat}
theorem yLoad (hc : CI Q H S r W) (ht : TX b len W.inp) (hg : good b len = true) : ∃ X Y, F_82 W = some (-1, X) ∧ F_368 X = some (nI (sText b len).2.2.n, Y) ∧ CI (sText b len).2.2 [] none 0 Y ∧ IT Y ∧ Y.cl = W.cl ∧ Co 0 0 W Y := by
  obtain ⟨T2, e2, t2, -⟩ := qText ht
  rw [if_pos hg] at e2
  obtain ⟨X, hX, x1, x2, x3, x4, x5, x6, x7, x8, x9⟩ := inp_f W T2
  rw [← x1] at t2
  obtain ⟨T3, e3, t3, hd⟩ := qText t2
  rw [if_pos hg] at e3
  obtain ⟨hD, hcn⟩ := hd hg
  generalize (sText b len).2.2 = R at *
  obtain ⟨Z, hZ, z1', z2', z3', z4', z5', z6', z7', z8', z9'⟩ := inp_f X T3
  obtain ⟨r1, r2, r3, r4, r9, r10, r11⟩ := hD
  have hn := r9.2.1
  obtain ⟨B', q0, q1, q2, q3, q4⟩ := c2p Z.board T3.draft
  obtain ⟨f, f1, f2⟩ := c13 (q1 R.n R.E r1) r9 hcn
  obtain ⟨D, hDD, d1, d2, d3, d4, d5, d6, d7, d8, d9⟩ := bd_dist B' f
  rw [hDD] at f1 f2
  obtain ⟨Y, hY⟩ : ∃ Y, ((((Z.w_board B').w_board D).w_hist (Z.hist.w_size 0)).w_pp ((Z.pp.w_hasSaved 0).w_refusal 0)).w_inp (T3.w_length 0) = Y := ⟨_, rfl⟩
  have b1 : Y.board = D := by subst hY; rfl
  have b2 : Y.hist = Z.hist.w_size 0 := by subst hY; rfl
  have b3 : Y.pp = (Z.pp.w_hasSaved 0).w_refusal 0 := by subst hY; rfl
  have b4 : Y.inp = T3.w_length 0 := by subst hY; rfl
  have b5 : Y.dyn = Z.dyn := by subst hY; rfl
  have b6 : Y.kc = Z.kc := by subst hY; rfl
  have b7 : Y.kn = Z.kn := by subst hY; rfl
  have b9 : Y.fps = Z.fps := by subst hY; rfl
  have hv : D.vertices = nI R.n := d1.trans (q1 R.n R.E r1).1
  have hdyn : Y.dyn = W.dyn := b5.trans (z7'.trans x7)
  obtain ⟨a1, a2, a3, a4, a5, a6⟩ := hc
  refine ⟨X, Y, ?_, ?_, ⟨?_, ⟨r9, hcn, r10, r11⟩, ?_, ?_, ?_, ?_⟩, ⟨b, 0, ?_⟩, cl_dyn hdyn, ?_⟩
  · unfold F_82
    rw [e2, Option.bind_some]
    dsimp only
    rw [hX, Option.bind_some]
  · have e : F_83 X = some (.inl (nI R.n), Y) := by
      unfold F_83
      rw [e3, Option.bind_some]
      show (some (X.w_inp T3)).bind _ = _
      rw [hZ, Option.bind_some, if_pos rfl, z1', q0, Option.bind_some, Option.bind_some]
      show (F_13 B').bind _ = _
      rw [f1, Option.bind_some, Option.bind_some]
      unfold F_49
      rw [Option.bind_some, Option.bind_some, Option.bind_some, Option.bind_some, Option.bind_some, Option.bind_some, Option.bind_some, Option.bind_some, Option.bind_some]
      rw [← hv, ← b1, ← hY, ← z1']
      rfl
    unfold F_368
    rw [e, Option.bind_some]
    dsimp only
    rw [xq_l]
  · rw [b1]
    exact ⟨⟨hv, d2.trans (q1 R.n R.E r1).2⟩, fun v hv => by rw [d5]; exact q2 R.pl r2 v hv, ⟨d4.trans (q3 R.n R.sc R.tg R.wt R.pr hn r10.1 r4).1, fun k hk => by rw [d6, d7, d8]; exact (q3 R.n R.sc R.tg R.wt R.pr hn r10.1 r4).2 k hk⟩, f2, by rw [d3, q4, r3]⟩
  · show Y.pp.hasSaved = 0
    rw [b3]; rfl
  · rw [b3]; rfl
  · rw [b2]
    exact HH.mono (HH.zero a5) (by rw [z5', x5]) fun c B q => by rw [bd_dyn hdyn]; exact q
  · exact FC.dy a6 (b9.trans (z6'.trans x6)) hdyn
  · rw [b4]
    exact ⟨rfl, by decide, fun i hi => absurd hi (Nat.not_lt_zero _)⟩
  · exact Co.dy (b6.trans (z8'.trans x8)) (b7.trans (z9'.trans x9)) hdyn
end LOAD

section TEXTS
variable {W : Wd} {Q : Ps} {H : List Ps} {S : Option Ps} {r : Int32}
theorem yTexts (hc : CI Q H S r W) (hi : IT W) : ∃ W', F_388 W = some (1, W') ∧ CI Q H S r W' ∧ W'.cl = W.cl ∧ Co 19 114 W W' := by
  obtain ⟨W4, e4, c4, i4, l4, o4⟩ := yWrong hc hi (k := 0) (by decide)
  obtain ⟨W5, e5, c5, i5, l5, o5⟩ := yWrong c4 i4 (k := 1) (by decide)
  obtain ⟨W6, e6, c6, i6, l6, o6⟩ := yWrong c5 i5 (k := 2) (by decide)
  obtain ⟨W7, e7, c7, i7, l7, o7⟩ := yWrong c6 i6 (k := 3) (by decide)
  obtain ⟨W8, e8, c8, i8, l8, o8⟩ := yWrong c7 i7 (k := 4) (by decide)
  obtain ⟨W9, e9, c9, i9, l9, o9⟩ := yWrong c8 i8 (k := 5) (by decide)
  obtain ⟨W10, e10, c10, i10, l10, o10⟩ := yWrong c9 i9 (k := 6) (by decide)
  obtain ⟨W11, e11, c11, i11, l11, o11⟩ := yWrong c10 i10 (k := 7) (by decide)
  obtain ⟨W12, e12, c12, i12, l12, o12⟩ := yWrong c11 i11 (k := 8) (by decide)
  obtain ⟨W13, e13, c13, i13, l13, o13⟩ := yWrong c12 i12 (k := 9) (by decide)
  obtain ⟨W14, e14, c14, i14, l14, o14⟩ := yWrong c13 i13 (k := 10) (by decide)
  obtain ⟨W15, e15, c15, i15, l15, o15⟩ := yWrong c14 i14 (k := 11) (by decide)
  obtain ⟨W16, e16, c16, i16, l16, o16⟩ := yWrong c15 i15 (k := 12) (by decide)
  obtain ⟨W17, e17, c17, i17, l17, o17⟩ := yWrong c16 i16 (k := 13) (by decide)
  obtain ⟨W18, e18, c18, i18, l18, o18⟩ := yWrong c17 i17 (k := 14) (by decide)
  obtain ⟨W19, e19, c19, i19, l19, o19⟩ := yWrong c18 i18 (k := 15) (by decide)
  obtain ⟨W20, e20, c20, i20, l20, o20⟩ := yWrong c19 i19 (k := 16) (by decide)
  obtain ⟨W21, e21, c21, i21, l21, o21⟩ := yWrong c20 i20 (k := 17) (by decide)
  obtain ⟨W22, e22, c22, i22, l22, o22⟩ := yWrong c21 i21 (k := 18) (by decide)
  have e4 : F_387 W (am_SB + 10 + 2 * 4) 0 = some (1, W4) := e4
  have e5 : F_387 W4 (am_SB + 10 + 2 * 5) 0 = some (1, W5) := e5
  have e6 : F_387 W5 (am_SB + 10 + 2 * 6) 9 = some (1, W6) := e6
  have e7 : F_387 W6 (am_SB + 10 + 2 * 7) 9 = some (1, W7) := e7
  have e8 : F_387 W7 (am_SB + 10 + 2 * 8) 10 = some (1, W8) := e8
  have e9 : F_387 W8 (am_SB + 10 + 2 * 9) 11 = some (1, W9) := e9
  have e10 : F_387 W9 (am_SB + 10 + 2 * 10) 18 = some (1, W10) := e10
  have e11 : F_387 W10 (am_SB + 10 + 2 * 11) 20 = some (1, W11) := e11
  have e12 : F_387 W11 (am_SB + 10 + 2 * 12) 18 = some (1, W12) := e12
  have e13 : F_387 W12 (am_SB + 10 + 2 * 13) 17 = some (1, W13) := e13
  have e14 : F_387 W13 (am_SB + 10 + 2 * 14) 18 = some (1, W14) := e14
  have e15 : F_387 W14 (am_SB + 10 + 2 * 15) 16 = some (1, W15) := e15
  have e16 : F_387 W15 (am_SB + 10 + 2 * 16) 22 = some (1, W16) := e16
  have e17 : F_387 W16 (am_SB + 10 + 2 * 17) 35 = some (1, W17) := e17
  have e18 : F_387 W17 (am_SB + 10 + 2 * 18) 11 = some (1, W18) := e18
  have e19 : F_387 W18 (am_SB + 10 + 2 * 19) 34 = some (1, W19) := e19
  have e20 : F_387 W19 (am_SB + 10 + 2 * 20) 9 = some (1, W20) := e20
  have e21 : F_387 W20 (am_SB + 10 + 2 * 21) 19 = some (1, W21) := e21
  have e22 : F_387 W21 (am_SB + 10 + 2 * 22) 77 = some (1, W22) := e22
  have n10 : ¬ (1 : Int32) = 0 := by decide
  have j1 : J_388_0_j202 W18 1 = some (1, W22) := by
    unfold J_388_0_j202 J_388_0_j260
    rw [if_neg n10, e19, Option.bind_some]
    dsimp only
    rw [if_neg n10, e20, Option.bind_some]
    dsimp only
    rw [if_neg n10, e21, Option.bind_some]
    dsimp only
    rw [if_neg n10, e22, Option.bind_some]
    dsimp only
    rw [if_neg n10, if_pos (.inr rfl), Option.bind_some]
  have j2 : J_388_0_j132 W13 1 = some (1, W22) := by
    unfold J_388_0_j132
    rw [if_neg n10, e14, Option.bind_some]
    dsimp only
    rw [if_neg n10, e15, Option.bind_some]
    dsimp only
    rw [if_neg n10, e16, Option.bind_some]
    dsimp only
    rw [if_neg n10, e17, Option.bind_some]
    dsimp only
    rw [if_neg n10, e18, Option.bind_some]
    dsimp only
    rw [if_neg n10, j1]
  have j3 : J_388_0_j62 W8 1 = some (1, W22) := by
    unfold J_388_0_j62
    rw [if_neg n10, e9, Option.bind_some]
    dsimp only
    rw [if_neg n10, e10, Option.bind_some]
    dsimp only
    rw [if_neg n10, e11, Option.bind_some]
    dsimp only
    rw [if_neg n10, e12, Option.bind_some]
    dsimp only
    rw [if_neg n10, e13, Option.bind_some]
    dsimp only
    rw [if_neg n10, j2]
  refine ⟨W22, ?_, c22, ?_, ?_⟩
  · unfold F_388
    rw [e4, Option.bind_some]
    dsimp only
    rw [if_neg n10, e5, Option.bind_some]
    dsimp only
    rw [if_neg n10, e6, Option.bind_some]
    dsimp only
    rw [if_neg n10, e7, Option.bind_some]
    dsimp only
    rw [if_neg n10, e8, Option.bind_some]
    dsimp only
    rw [if_neg n10, j3]
  · rw [l22, l21, l20, l19, l18, l17, l16, l15, l14, l13, l12, l11, l10, l9, l8, l7, l6, l5, l4]
  · have c := o4.tr (o5.tr (o6.tr (o7.tr (o8.tr (o9.tr (o10.tr (o11.tr (o12.tr (o13.tr (o14.tr (o15.tr (o16.tr (o17.tr (o18.tr (o19.tr (o20.tr (o21.tr o22)))))))))))))))))
    exact c.up (by decide) (by decide)
end TEXTS
