/-! ===== THE LAW FROM ITS BEGINNING ===== -/
theorem start_cn : Cn 3 (ae (ae 0 0 1) 1 2) := by
  show ∀ v, v < 3 → (bl 3 (ae (ae 0 0 1) 1 2) 0 2).testBit v = true
  decide
theorem start_te : te (te 0 0 1) 1 2 = ae (ae 0 0 1) 1 2 := by decide +kernel
theorem start_ci : ∃ B0, F_79 = some B0 ∧ CI Qpl [] none 0 (W0 B0) := by
  have g0 : Gr 3 0 := Gr.zero (by decide) (by decide)
  have g1 : Gr 3 (ae 0 0 1) := g0.ae (by decide) (by decide) (by decide)
  have g2 : Gr 3 (ae (ae 0 0 1) 1 2) := g1.ae (by decide) (by decide) (by decide)
  obtain ⟨B1, a1, a2, a3, a4, a5⟩ := c1 (n := 3) (tg := fun _ => 0) (wt := fun _ _ => 0) (pr := fun _ _ => none) Bd.zero
  obtain ⟨B2, b1, b2, b3, b4, b5, b6, b7, b8⟩ := c4 a2 (u := 0) (v := 1) (by decide) (by decide)
  obtain ⟨B3, d1, d2, d3, d4, d5, d6, d7, d8⟩ := c4 b2 (u := 1) (v := 2) (by decide) (by decide)
  obtain ⟨f, f1, f2⟩ := c13 d2 g2 start_cn
  obtain ⟨B4, hB4, e1, e2, e3, e4, e5, e6, e7, e8, e9⟩ := bd_dist B3 f
  rw [hB4] at f1 f2
  have p4 : CP (fun _ => 0) B4 := fun v hv => by rw [e5, d3, b3]; exact a3 v hv
  obtain ⟨B5, hB5, q1, q2, q3, q4, q5, q6, q7, q8, q9⟩ := up_cp (a := 4) p4 (show 0 < 6 by decide)
  have eQ : Qpl = mP 3 (ae (ae 0 0 1) 1 2) (upl (fun _ => 0) 0 4) 0 0 (fun _ => 0) (fun _ _ => 0) (fun _ _ => none) := by
    unfold Qpl
    rw [start_te]
    rfl
  rw [eQ]
  refine ⟨B5, ?_, ⟨⟨q2.trans (e1.trans d2.1), q3.trans (e2.trans d2.2)⟩, q1, ⟨q5.trans (e4.trans (d5.trans (b5.trans a5.1))), fun k hk => absurd hk (Nat.not_lt_zero _)⟩, fun u v hu hv => (by show B5.distances (6 * u + v) = _; rw [q4]; exact f2 u v hu hv), (by show B5.moveCount = 0; rw [q9, e3, d4, b4, a4])⟩, ⟨g2, start_cn, ⟨Nat.zero_le _, fun k hk => absurd hk (Nat.not_lt_zero _)⟩, fun v hv => ?_⟩, rfl, rfl, ⟨0, by decide, by decide, rfl, rfl, fun i a _ ha => (by cases ha), fun i j a _ _ ha _ => (by cases ha), fun i R hR => by simp at hR⟩, fun t a _ ha => (by cases ha)⟩
  · unfold F_79
    rw [show F_1 Bd.zero 3 = some B1 from a1, Option.bind_some, show F_4 B1 0 1 = some B2 from b1, Option.bind_some, show F_4 B2 1 2 = some B3 from d1, Option.bind_some, f1, Option.bind_some, show B4.w_pile (upd B4.pile 0 4) = B5 from hB5]
    rfl
  · show (if v = 0 then 4 else 0) ≤ 999
    split <;> omega
theorem good_0 (b : Nat → Nat) : good b 0 = false := rfl
section LAW
variable {L : Nat} {xs : Nat → Int32}
theorem law_true (hL : L ≤ 260) : ∃ B0 W, F_79 = some B0 ∧ F_389 L xs (W0 B0) = some (1, W) ∧ W.kc ≤ 320000 ∧ W.kn ≤ 5400000 := by
  have sb : am_SB = 1000000 := rfl
  obtain ⟨B0, h79, c0⟩ := start_ci
  have n1 : ¬ (1 : Int32) = 0 := by decide
  -- nothing to undo, nothing saved, nothing valid, no such vertex
  obtain ⟨V1, e1, c1, k1, i1, o1⟩ := cUndo0 c0
  have e379 : F_379 (W0 B0) = some (3294967293, V1) := by
    unfold F_379
    rw [e1, Option.bind_some]
    rfl
  obtain ⟨V2, e2, c2, k2, i2, o2⟩ := cRestore0 c1
  have e380 : F_380 V1 = some (3294967293, V2) := by
    unfold F_380
    rw [e2, Option.bind_some]
    rfl
  have t2 : TX (fun _ => 0) 0 V2.inp := by
    rw [i2, i1]
    exact ⟨rfl, by decide, fun i hi => absurd hi (Nat.not_lt_zero _)⟩
  obtain ⟨T3, e3, t3, -⟩ := qText t2
  rw [good_0, if_neg (by decide)] at e3
  obtain ⟨Z3, hZ3, z1', z2', z3', z4', z5', z6', z7', z8', z9'⟩ := inp_f V2 T3
  have hs0 : tS (fun _ => 0) 0 (sText (fun _ => 0) 0).2.1 = 0 := rfl
  rw [hs0] at e3
  have e368 : F_368 V2 = some (3294967294, Z3.thr) := by
    have e83 : F_83 V2 = some (.inr 1, Z3.thr) := by
      unfold F_83
      rw [e3, Option.bind_some]
      dsimp only
      rw [hZ3, Option.bind_some, if_neg (nI_m1 (by decide))]
    unfold F_368
    rw [e83, Option.bind_some]
    dsimp only
    rw [xq_r, if_pos rfl]
  have hd3 : Z3.thr.dyn = V2.dyn := z7'
  have c3 : CI Qpl [] none 0 Z3.thr := c2.cong z2' z3' z4' z5' z6' hd3
  have it3 : IT Z3.thr := ⟨_, _, by show TX _ _ Z3.inp; rw [z1']; exact t3⟩
  have o3 : Co 1 6 V2 Z3.thr := by
    refine ⟨?_, ?_, ?_⟩
    · show Z3.kc + 1 ≤ V2.kc + 1; omega
    · show Z3.kn + 6 ≤ V2.kn + 6; omega
    · rw [top_dyn hd3]; show V2.top + V2.kc ≤ V2.top + (Z3.kc + 1); omega
  generalize Z3.thr = V3 at *
  obtain ⟨V4, e4, c4, k4, i4, o4⟩ := cMoveX c3 (x := 3) (z := 0) rfl
  have e371 : F_371 V3 3 0 = some (3294967295, V4) := by
    unfold F_371
    rw [e4, Option.bind_some]
    rfl
  have o14 := o1.tr (o2.tr (o3.tr o4))
  have top0 : (W0 B0).top = 29 := rfl
  have kc0 : (W0 B0).kc = 29 := rfl
  have kn0 : (W0 B0).kn = 27461 := rfl
  have tp4 := o14.top0
  -- the plain yard
  obtain ⟨V5, w5, e5, y5, f5⟩ := yPlain (w := fun _ => 0) (W := V4) (by omega)
  have c5 := f5.2.2.1.ci c4
  have tp5 := (o14.tr f5.2.2.2.1).top0
  obtain ⟨V6, w6, e6, y6, c6, f6⟩ := yIsAs y5 c5 (by omega)
  have tp6 := (o14.tr (f5.2.2.2.1.tr f6.2.2.2.1)).top0
  -- the drawn yard, its text
  obtain ⟨V7, w7, R, e7, y7, hT, f7⟩ := yDrawn (L := L) (xs := xs) (w := w6) (W := V6) hL (by omega)
  have o17 := o14.tr (f5.2.2.2.1.tr (f6.2.2.2.1.tr f7.2.2.2.1))
  have tp7 := o17.top0
  obtain ⟨V8, t, e8, tv, g8⟩ := yText y7 hT (by omega)
  have o18 := o17.tr g8.2.2.1
  have tp8 := o18.top0
  have hn := hT.1.1.2.1
  have y8 : Yd w7 V8.cl V6.top R := y7.ext (fun b c hb ho _ => ⟨by rw [g8.1 b (cl_lt hb)]; exact hb, ho⟩) hn
  have c8 := g8.2.1.ci (f7.2.2.1.ci c6)
  have it8 : ∃ b len, TX b len V8.inp := by
    obtain ⟨b, len, q⟩ := it3
    exact ⟨b, len, by rw [g8.2.1.2.2.2.2.1, f7.2.2.1.2.2.2.2.1, f6.2.2.1.2.2.2.2.1, f5.2.2.1.2.2.2.2.1, i4]; exact q⟩
  obtain ⟨o, e9, t9⟩ := yType tv.to it8
  obtain ⟨X9, hX9, x1, x2, x3, x4, x5, x6, x7, x8, x9⟩ := inp_f V8 o
  rw [hX9] at e9
  rw [← x1] at t9
  have c9 : CI Qpl [] none 0 X9 := c8.cong x2 x3 x4 x5 x6 x7
  obtain ⟨hgood, R', hR', r1, r2, r3, r4, r5, r6⟩ := tt_T hT
  obtain ⟨X10, V10, e10, e11, c10, it10, k10, o10⟩ := yLoad c9 t9 hgood
  rw [hR'] at e11 c10
  have y10 : Yd w7 V10.cl V6.top R' := by
    rw [k10, cl_dyn x7]
    exact y8.cong r1 r2 r3 r4 r5 r6
  have o20 : Co 800 260000 (W0 B0) V10 := (o18.tr ((Co.dy (X := V8) (Y := X9) x8 x9 x7).tr o10)).up (by decide) (by decide)
  have tp10 := o20.top0
  obtain ⟨V11, w11, e12, y11, c11, f11⟩ := yIsAs y10 c10 (by omega)
  have hX10 : X10.gI V6.top 7 0 = some (nI R'.n) ∨ True := .inr trivial
  have o21 := o20.tr f11.2.2.2.1
  have tp11 := o21.top0
  -- the list of the history
  obtain ⟨V12, e13, k13⟩ := nO_ (W := V11) (ci := 10) (by decide) (by omega)
  have s12 := k13.new 0
  rw [Nat.add_zero] at s12
  have s12 : V12.cl V11.top = some (.inr (10, [.int 0, .null, .int 0])) := s12
  have tp12 : V12.top = V11.top + 1 := k13.2.2.1
  obtain ⟨V13, e14, k14⟩ := pv_ (v := .int 0) (i := 0) s12 ⟨show 0 < 3 by decide, rfl, rfl, nofun⟩
  have s13 : V13.cl V11.top = some (.inr (10, [.int 0, .null, .int 0])) := by rw [k14.1]; exact upm_s
  obtain ⟨V14, e15, k15⟩ := pv_ (v := .ref (am_SB + 2)) (i := 1) s13 ⟨show 1 < 3 by decide, rfl, rfl, fun z => by
    have q : am_SB + 2 = am_SB + 1 := Value.ref.inj z
    omega⟩
  have s14 : V14.cl V11.top = some (.inr (10, [.int 0, .ref (am_SB + 2), .int 0])) := by rw [k15.1]; exact upm_s
  have tp14 : V14.top = V11.top + 1 := k15.2.2.2.2.2.2.2.2.2.1.trans (k14.2.2.2.2.2.2.2.2.2.1.trans tp12)
  obtain ⟨V15, e16, k16⟩ := nO_ (W := V14) (ci := 6) (by decide) (by omega)
  have s15 := k16.new 0
  rw [Nat.add_zero] at s15
  have s15 : V15.cl V14.top = some (.inr (6, [.int 0])) := s15
  have tp15 : V15.top = V14.top + 1 := k16.2.2.1
  have keep : ∀ b c, V11.cl b = some c → V15.cl b = some c := fun b c hb => by
    have hlt := cl_lt hb
    exact k16.old (by rw [k15.1, upm_n (by omega), k14.1, upm_n (by omega)]; exact k13.old hb)
  have smA : Sm V11 V15 := k13.2.1.tr (k14.sm.tr (k15.sm.tr k16.2.1))
  have coA : Co 2 4 V11 V15 := (k13.co.tr (k14.co.tr (k15.co.tr k16.co))).up (by decide) (by decide)
  obtain ⟨wz, hwz⟩ : ∃ wz, wz = fr (fr w11 V11.top V11.top) V14.top V14.top := ⟨_, rfl⟩
  have wlt : ∀ b, b < V11.top → wz b = w11 b := fun b hb => by rw [hwz, fr_o (by omega), fr_o hb]
  have whl : wz V11.top = V11.top := by rw [hwz, fr_o (by omega), fr_n (Nat.le_refl _)]
  have wy : wz V14.top = V14.top := by rw [hwz, fr_n (Nat.le_refl _)]
  have gT : V6.top < V11.top := by obtain ⟨_, _, _, _, _, _, q, _⟩ := y11; exact cl_lt q
  have y15 : Yd wz V15.cl V6.top R' := y11.ext (fun b c hb ho _ => ⟨keep b c hb, (wlt b (cl_lt hb)).trans ho⟩) (by rw [r1]; exact hn)
  have lr : LR wz V15.cl V11.top V14.top V6.top [] [] none none 0 := ⟨⟨0, am_SB + 2, k16.old s14, whl, by decide, .inl ⟨rfl, rfl⟩⟩, rfl, List.nodup_nil, by simp, fun k R q => by simp at q, trivial, s15, wy⟩
  have c15 := smA.ci c11
  have it15 : IT V15 := by
    obtain ⟨b, len, q⟩ := it10
    exact ⟨b, len, by rw [smA.2.2.2.2.1, f11.2.2.1.2.2.2.2.1]; exact q⟩
  have h48 : sm R'.pl R'.n ≤ 48 := by
    have q := sm_le (f := R'.pl) (c := 8) (n := R'.n) (fun v hv => by rw [r1] at hv; rw [r3 v hv]; exact hT.2.2.1 v)
    have q2 : R'.n * 8 ≤ 6 * 8 := Nat.mul_le_mul_right _ (by omega)
    omega
  have o25 := o21.tr coA
  have tpz := o25.top0
  -- sixty calls
  obtain ⟨g', V20, e20, sv', w20, Q, H, S, r, hs, y20, l20', c20, it20, o20', b20⟩ := lLoop (xs := xs) hL (hl := V11.top) (y := V14.top) (W0 := V15) (g := V6.top) (B := V15) ⟨wz, R', [], none, 0, [], y15, lr, c15, it15, Co.rf V15, h48, fun k R q => by simp at q, fun R q => by cases q⟩ (by omega)
  -- the invalid texts
  obtain ⟨V21, e21, c21, k21, o21'⟩ := yTexts c20 it20
  have oA := o25.tr (o20'.tr o21')
  have tp21 := oA.top0
  have y21 : Yd w20 V21.cl g' Q := by rw [k21]; exact y20
  obtain ⟨V22, w22, e22, y22, c22, f22⟩ := yIsAs y21 c21 (by omega)
  have oB := oA.tr f22.2.2.2.1
  refine ⟨B0, V22, h79, ?_, ?_, ?_⟩
  · have g97 : F_97 V4 = some 0 := cReason c4
    have m10 : V10.gI V6.top 7 0 = some (nI R'.n) := (yMany' y10).1
    have e346 : F_346 V12 V11.top = some V14 := by
      unfold F_346 F_341 F_340
      rw [rp_ (by omega)]
      simp only [Option.bind_some, e14, e15]
    have e300 : F_300 V15 V14.top = some () := by
      unfold F_300
      rw [rp_ (by omega), Option.bind_some]
    unfold F_389
    rw [e379, Option.bind_some]
    dsimp only
    rw [if_neg (fun z => z rfl), e380, Option.bind_some]
    dsimp only
    rw [if_neg (fun z => z rfl), e368, Option.bind_some]
    dsimp only
    rw [if_neg (fun z => z rfl), e371, Option.bind_some]
    dsimp only
    rw [if_neg (fun z => z rfl), g97, Option.bind_some, if_neg (fun z => z rfl), e5, Option.bind_some]
    dsimp only
    rw [(yMany' y5).2, Option.bind_some, e6, Option.bind_some]
    dsimp only
    rw [if_pos n1, e7, Option.bind_some]
    dsimp only
    rw [(yMany' y7).2, Option.bind_some, e8, Option.bind_some]
    dsimp only
    rw [e9, Option.bind_some]
    dsimp only
    rw [if_neg n1, e10, Option.bind_some]
    dsimp only
    rw [if_neg (fun z => z rfl), e11, Option.bind_some]
    dsimp only
    rw [m10, Option.bind_some, if_neg (fun z => z rfl), (yMany' y10).2, Option.bind_some, e12, Option.bind_some]
    dsimp only
    rw [if_pos n1, e13, Option.bind_some]
    dsimp only
    rw [rp_ (by omega), Option.bind_some, e346, Option.bind_some, e16, Option.bind_some]
    dsimp only
    rw [rp_ (by omega), Option.bind_some, e300, Option.bind_some, e20, Option.bind_some]
    dsimp only
    rw [e21, Option.bind_some]
    dsimp only
    rw [if_neg n1, (yMany' y21).2, Option.bind_some, e22, Option.bind_some]
    dsimp only
    rw [if_neg n1]
    unfold J_389_0_j467
    rw [if_pos (.inr rfl), Option.bind_some]
  · have := oB.1
    omega
  · have := oB.2.1
    omega
end LAW
