/-! ===== THE SETUP TEXT: a strategy ===== -/
section PARSE
variable {b : Nat → Nat} {len n E sc : Nat} {pl : Nat → Nat} {T : Tx} {M : Md} {tg : Nat → Nat} {wt : Nat → Nat → Nat} {pr : Nat → Nat → Option Nat}
theorem bd_sbw (B : Bd) (f g h : Nat → Int32) (c : Int32) : ∃ y, sbw B f g h c = y ∧ y.vertices = B.vertices ∧ y.edges = B.edges ∧ y.pile = B.pile ∧ y.moveCount = B.moveCount := ⟨_, rfl, rfl, rfl, rfl, rfl⟩
theorem bd_wp (B : Bd) (f g : Nat → Int32) : ∃ y, (B.w_weights f).w_parents g = y ∧ y.vertices = B.vertices ∧ y.edges = B.edges ∧ y.pile = B.pile ∧ y.moveCount = B.moveCount := ⟨_, rfl, rfl, rfl, rfl, rfl⟩
theorem PR.str {B B' : Bd} {R R' : Nat → Int32} {sc' : Nat} {tg' : Nat → Nat} {wt' : Nat → Nat → Nat} {pr' : Nat → Nat → Option Nat} (hR : PR n E pl sc tg wt pr B R)
    (hB : B'.vertices = B.vertices ∧ B'.edges = B.edges ∧ B'.pile = B.pile ∧ B'.moveCount = B.moveCount) (hC : CS n sc' tg' wt' pr' B') (hM : MS n sc' tg' wt' pr' R') (h7 : ∀ j, j < 14 → R' j = R j) (hO : SO n sc' tg' wt' pr') : PR n E pl sc' tg' wt' pr' B' R' := by
  obtain ⟨r1, r2, r3, r4, r5, r6, r7, r8, r9, r10, r11⟩ := hR
  obtain ⟨b1, b2, b3, b4⟩ := hB
  exact ⟨⟨b1.trans r1.1, b2.trans r1.2⟩, fun w hw => by rw [b3]; exact r2 w hw, b4.trans r3, hC, ⟨by rw [h7 _ (by omega)]; exact r5.1, fun w hw => by rw [h7 _ (by omega)]; exact r5.2 w hw⟩, fun w hw => by rw [h7 _ (by omega)]; exact r6 w hw, by rw [h7 _ (by omega)]; exact r7, hM, r9, hO, r11⟩
theorem j84g {x1 x2 a c d : Int32} {X Y Z : Md} (h1 : F_155 M = some (a, X)) (h2 : F_155 X = some (c, Y)) (h3 : F_149 Y 0 64 = some (d, Z)) (hw : Z.wrong = -1) {i j : Nat} (hi : ix ((x2 + 1) + a) 93 = some i) (hj : ix ((x2 + 7) + a) 93 = some j) :
    ∃ W, J_159_56_j84 M x1 x2 = some (.inl W) ∧ W.at = Z.at ∧ W.from_ = Z.from_ ∧ W.kind = Z.kind ∧ W.number = Z.number ∧ W.read = upd (upd Z.read i d) j c ∧ W.wrong = Z.wrong ∧ MF Z W := by
  obtain ⟨P, hP, p1, p2, p3, p4, p5, p6, p7⟩ := md_read Z (upd Z.read i d)
  obtain ⟨W, hW, w1, w2, w3, w4, w5, w6, w7⟩ := md_read P (upd P.read j c)
  refine ⟨W, ?_, w1.trans p1, w2.trans p2, w3.trans p3, w4.trans p4, by rw [w5, p5], w6.trans p6, p7.tr w7⟩
  unfold J_159_56_j84
  rw [h1, Option.bind_some]
  show (F_155 X).bind _ = _
  rw [h2, Option.bind_some]
  show (F_149 Y 0 64).bind _ = _
  rw [h3, Option.bind_some]
  show (F_146 Z).bind _ = _
  rw [m146g hw, Option.bind_some, if_neg (by decide), hi, Option.bind_some, hP, Option.bind_some, hj, Option.bind_some, hW]
  rfl
theorem j84e3 {x1 x2 a c d : Int32} {X Y Z : Md} {e : Nat} (h1 : F_155 M = some (a, X)) (h2 : F_155 X = some (c, Y)) (h3 : F_149 Y 0 64 = some (d, Z)) (hw : Z.wrong = nI e) (he : e < 2 ^ 31) : J_159_56_j84 M x1 x2 = some (.inl Z) := by
  unfold J_159_56_j84
  rw [h1, Option.bind_some]
  show (F_155 X).bind _ = _
  rw [h2, Option.bind_some]
  show (F_149 Y 0 64).bind _ = _
  rw [h3, Option.bind_some]
  show (F_146 Z).bind _ = _
  rw [m146n hw he, Option.bind_some, if_pos rfl]
  rfl
theorem j84e2 {x1 x2 a c : Int32} {X Y : Md} {e : Nat} (h1 : F_155 M = some (a, X)) (h2 : F_155 X = some (c, Y)) (hw : Y.wrong = nI e) (he : e < 2 ^ 31) : ∃ Z, J_159_56_j84 M x1 x2 = some (.inl Z) ∧ Z.wrong = nI e ∧ MF Y Z := by
  obtain ⟨Z, d1, d2, d3, d4, d5⟩ := m149n (x := 0) (z := 64) hw he
  exact ⟨Z, j84e3 h1 h2 d1 d2 he, d2, d5⟩
theorem j84e1 {x1 x2 a : Int32} {X : Md} {e : Nat} (h1 : F_155 M = some (a, X)) (hw : X.wrong = nI e) (he : e < 2 ^ 31) : ∃ Z, J_159_56_j84 M x1 x2 = some (.inl Z) ∧ Z.wrong = nI e ∧ MF X Z := by
  obtain ⟨Y, y1, y2, y3⟩ := m155n hw he
  obtain ⟨Z, z1, z2, z3⟩ := j84e2 (x1 := x1) (x2 := x2) h1 y1 y2 he
  exact ⟨Z, z1, z2, y3.tr z3⟩
theorem p159w {e : Nat} (hw : M.wrong = nI e) (he : e < 2 ^ 31) (x y : Int32) (k : Nat) : lw (G_159_56 x y) (k + 1) M = some M := by
  apply lw_end
  simp only [G_159_56]
  rw [m146n hw he, Option.bind_some, if_pos rfl]
theorem ism_one {t p : Nat} (ht : t < n) : ism t t b len p = true ↔ ism 0 (n - 1) b len p = true ∧ tN b len p = t := by
  unfold ism
  rw [decide_eq_true_iff, decide_eq_true_iff]
  omega
/-- one step of a strategy's loop, of both -/
theorem p77s {p k s : Nat} (hP : PT b len p T M) (hR : PR n E pl (s + 1) tg wt pr T.draft M.read) (hk : k + 1 ≤ p) :
    (G_159_56 (nI (tg s)) (nI (15 + 13 * s)) M = some (.inr M) ∧ G_77_44 (nI k, T) = some (.inr (.inl T))) ∨
    (∃ T' M' e, G_77_44 (nI k, T) = some (.inr (.inr (0, T'))) ∧ G_159_56 (nI (tg s)) (nI (15 + 13 * s)) M = some (.inl M') ∧ e ≤ len ∧ M'.wrong = nI e ∧ T'.start = nI e ∧ PF T T' M M') ∨
    (∃ p' wt' pr' T' M', G_77_44 (nI k, T) = some (.inl (nI (k + 1), T')) ∧ G_159_56 (nI (tg s)) (nI (15 + 13 * s)) M = some (.inl M') ∧ PF T T' M M' ∧ PT b len p' T' M' ∧ PR n E pl (s + 1) tg wt' pr' T'.draft M'.read ∧ p < p') := by
  obtain ⟨hT, hM, hp, hC, hK, hw⟩ := id hP
  have h4 := hT.2.1
  have hG := hR.2.2.2.2.2.2.2.2.1
  have hMR := hR.2.2.2.2.1
  have hSO := hR.2.2.2.2.2.2.2.2.2.1
  have hCS := hR.2.2.2.1
  have hMS := hR.2.2.2.2.2.2.2.1
  have hn1 := hG.1
  have hn6 := hG.2.1
  have k3 := tK_le b len p
  have k0 := tS_le (b := b) hp
  have s6 : s + 1 ≤ 6 := hSO.1
  have htg : tg s < n := (hSO.2 s (by omega)).1
  have htc : T.draft.targets s = nI (tg s) := (hCS.2 s (by omega)).1
  by_cases h2 : tK b len p = 2
  · refine .inr ?_
    have kt : T.kind = 2 := by rw [hC.2.2.1, h2]; rfl
    have km : M.kind = 2 := by rw [hK.2.2.1, h2]; rfl
    have cs : ∀ r T', F_78 T (nI s) = some (bI r, T') → G_77_44 (nI k, T) = if r = true then some (.inl (nI (k + 1), T')) else some (.inr (.inr (0, T'))) := by
      intro r T' h
      simp only [G_77_44]
      rw [show (400 : Int32) = nI 400 from rfl, if_neg (nI_ge (by omega) (by omega)), if_neg (fun z => z kt), hCS.1, z1, pk_sub (by omega), show s + 1 - 1 = s by omega, h, Option.bind_some, nI_add]
      cases r with
      | true => exact if_pos (show ¬ (1 : Int32) = 0 by decide)
      | false => exact if_neg (show ¬ ¬ (0 : Int32) = 0 by decide)
    have hF : F_148 M (nI (tg s)) (nI (tg s)) = some (bI (ism (tg s) (tg s) b len p)) := m148 hp h4 hK hw (by omega) (by omega)
    have ms : ∀ W, ism (tg s) (tg s) b len p = false → J_159_56_j84 M (nI (tg s)) (nI (15 + 13 * s)) = some (.inl W) → G_159_56 (nI (tg s)) (nI (15 + 13 * s)) M = some (.inl W) := by
      intro W h h'
      simp only [G_159_56]
      rw [m146g hw, Option.bind_some, if_neg (by decide), if_neg (fun z => z km), hF, h, Option.bind_some, if_pos (by decide), h']
    rcases nt (lo := 0) (hi := n - 1) hP (by decide) (by omega) with ⟨i1, _, v2, v3, v4, T2, M2, b1, b2, b3, b4, b5, b6⟩ | ⟨i1, v3, Y, b2, b3, ⟨e, e1, e2, e3⟩, b5, b6⟩
    · have hv := c70 (r := true) hR v3
      have hm := m155 hR b2
      have hgt := tE_gt hp i1
      by_cases hvt : tN b len p = tg s
      · have his := (ism_one htg).2 ⟨i1, hvt⟩
        obtain ⟨y, hy, y1, y2, y3, y4, y5, y6, y7⟩ := md_wrong M (nI (tS b len p))
        obtain ⟨W, w1, w2, w3⟩ := m155n y6 (by omega)
        obtain ⟨Z, d1, d2, d3⟩ := j84e1 (x1 := nI (tg s)) (x2 := nI (15 + 13 * s)) w1 w2 (by omega)
        refine .inl ⟨T, Z, tS b len p, ?_, ?_, k0.2, d2, hC.1, rfl, rfl, (y7.tr w3).tr d3⟩
        · refine (cs false T ?_).trans (if_neg (by decide))
          unfold F_78
          rw [hv, Option.bind_some, if_neg (by decide), ixn (by omega) (by decide), Option.bind_some, v4, htc, hvt, if_neg (fun z => z rfl)]
          rfl
        · simp only [G_159_56]
          rw [m146g hw, Option.bind_some, if_neg (by decide), if_neg (fun z => z km), hF, his, Option.bind_some, if_neg (by decide), m145g hw hK.1, Option.bind_some, hy, d1]
      · have his : ism (tg s) (tg s) b len p = false := by
          cases h : ism (tg s) (tg s) b len p with
          | false => rfl
          | true => exact absurd ((ism_one htg).1 h).2 hvt
        generalize tN b len p = v at *
        have hR2 : PR n E pl (s + 1) tg wt pr T2.draft M2.read := by rw [b4, b5]; exact hR
        have hne : ¬ nI v = nI (tg s) := by rw [nI_eq (by omega) (by omega)]; exact hvt
        have k2 := tE_le (b := b) hp
        rcases nt (lo := 0) (hi := n - 1) b3 (by decide) (by omega) with ⟨i2, _, q2, q3, q4, T3, M3, c1, c2, c3, c4, c5, c6⟩ | ⟨i2, q3, Y, c2, c3, ⟨e, e1, e2, e3⟩, c5, c6⟩
        · have hv2 := c70 (r := true) hR2 q3
          have hm2 := m155 hR2 c2
          have hgt2 := tE_gt b3.2.2.1 i2
          generalize tN b len (tE b len p) = q at *
          rcases nt (lo := 0) (hi := 64) c3 (by decide) (by decide) with ⟨i3, _, x2, x3, x4, T4, M4, d1, d2, d3, d4, d5, d6⟩ | ⟨i3, x3, Y, d2, d3, ⟨e, e1, e2, e3⟩, d5, d6⟩
          · have hgt3 := tE_gt c3.2.2.1 i3
            generalize tN b len (tE b len (tE b len p)) = w at *
            obtain ⟨W, w1, w2, w3, w4, w5, w6, w7, w8⟩ := j84g (x1 := nI (tg s)) (x2 := nI (15 + 13 * s)) (i := 16 + 13 * s + v) (j := 22 + 13 * s + v) hm hm2 d2 d3.2.2.2.2.2 (by rw [z1, nI_add, nI_add, ixn (by omega) (by decide)]; congr 1; omega) (by rw [show (7 : Int32) = nI 7 from rfl, nI_add, nI_add, ixn (by omega) (by decide)]; congr 1; omega)
            have dT : T3.draft = T.draft := c4.trans b4
            have rM : M4.read = M.read := d5.trans (c5.trans b5)
            obtain ⟨D, hD, g1⟩ := bd_wp T3.draft (upd T3.draft.weights (6 * s + v) (nI w)) (upd T3.draft.parents (6 * s + v) (nI q))
            have uc := uCS (k := s) (v := v) (q := q) (w := w) hCS hn6 (by omega)
            have um := uMS (k := s) (v := v) (q := q) (w := w) hMS hn6 (by omega)
            rw [← dT, hD] at uc
            rw [rM] at w6
            rw [dT] at g1
            obtain ⟨A, hA, u1, u2, u3, u4, u5, u6, u7⟩ := tx_draft T3 D
            have tx3 := c3.1
            have hAx : TX b len A := ⟨u5.trans tx3.1, tx3.2.1, fun i hi => by rw [u6]; exact tx3.2.2 i hi⟩
            have kk := tE_le (b := b) c3.2.2.1
            obtain ⟨A2, t4, t5, t6⟩ := c66 hAx kk.2 (u2.trans c3.2.2.2.1.2.1)
            have dr : A2.draft = D := t6.2.2.trans u7
            have hk2 := d3.2.2.2.2.1
            have bc := b6.tr c6
            refine .inr ⟨_, uwt s v w wt, uwt s v (some q) pr, A2, W, (cs true A2 ?_).trans (if_pos rfl), ms W his w1, ⟨(t6.1.trans u5).trans bc.1, (t6.2.1.trans u6).trans bc.2.1, (bc.2.2.tr d6.2.2).tr w8⟩, ⟨hAx.of t6, d3.2.1.of w8, kk.2, t5, hk2.of w2 w3 w4 w5, w7.trans d3.2.2.2.2.2⟩, ?_, by omega⟩
            · unfold F_78
              have x3' : F_69 T3 0 64 = some 1 := x3
              rw [hv, Option.bind_some, if_neg (by decide), ixn (by omega) (by decide), Option.bind_some, v4, htc, if_pos hne, b1, Option.bind_some, hv2, Option.bind_some, if_pos (by decide), c1, Option.bind_some, x3', Option.bind_some, if_pos (by decide), q4, x4, c27 (by omega), hD, Option.bind_some, hA, Option.bind_some, t4]
              rfl
            · rw [dr]
              refine hR.str g1 uc (by rw [w6]; exact um) (fun j hj => by rw [w6, pk_un (by omega), pk_un (by omega)]) (uSO hSO (by omega) (by omega))
          · have bc := b6.tr c6
            refine .inl ⟨T3, Y, e, (cs false T3 ?_).trans (if_neg (by decide)), ms Y his (j84e3 hm hm2 d2 e2 (by omega)), e1, e2, e3, bc.1, bc.2.1, bc.2.2.tr d6⟩
            unfold F_78
            have x3' : F_69 T3 0 64 = some 0 := x3
            rw [hv, Option.bind_some, if_neg (by decide), ixn (by omega) (by decide), Option.bind_some, v4, htc, if_pos hne, b1, Option.bind_some, hv2, Option.bind_some, if_pos (by decide), c1, Option.bind_some, x3', Option.bind_some, if_neg (by decide)]
            rfl
        · have hv2 := c70 (r := false) hR2 q3
          have hm2 := m155 hR2 c2
          obtain ⟨Z, z1, z2, z3⟩ := j84e2 (x1 := nI (tg s)) (x2 := nI (15 + 13 * s)) hm hm2 e2 (by omega)
          refine .inl ⟨T2, Z, e, (cs false T2 ?_).trans (if_neg (by decide)), ms Z his z1, e1, z2, e3, b6.1, b6.2.1, (b6.2.2.tr c6).tr z3⟩
          unfold F_78
          rw [hv, Option.bind_some, if_neg (by decide), ixn (by omega) (by decide), Option.bind_some, v4, htc, if_pos hne, b1, Option.bind_some, hv2, Option.bind_some, if_neg (by decide)]
          rfl
    · have hv := c70 (r := false) hR v3
      have hm := m155 hR b2
      have his : ism (tg s) (tg s) b len p = false := by
        cases h : ism (tg s) (tg s) b len p with
        | false => rfl
        | true => exact absurd (((ism_one htg).1 h).1.symm.trans i1) (by decide)
      obtain ⟨Z, z1, z2, z3⟩ := j84e1 (x1 := nI (tg s)) (x2 := nI (15 + 13 * s)) hm e2 (by omega)
      refine .inl ⟨T, Z, e, (cs false T ?_).trans (if_neg (by decide)), ms Z his z1, e1, z2, e3, rfl, rfl, b6.tr z3⟩
      unfold F_78
      rw [hv, Option.bind_some, if_pos (by decide)]
      rfl
  · refine .inl ⟨?_, ?_⟩
    · simp only [G_159_56]
      have q : ¬ M.kind = 2 := by rw [hK.2.2.1, z2, nI_eq (by omega) (by omega)]; exact h2
      rw [m146g hw, Option.bind_some, if_neg (by decide), if_pos q]
    · simp only [G_77_44]
      have q : ¬ T.kind = 2 := by rw [hC.2.2.1, z2, nI_eq (by omega) (by omega)]; exact h2
      rw [show (400 : Int32) = nI 400 from rfl, if_neg (nI_ge (by omega) (by omega)), if_pos q]
theorem p77l : ∀ (f p k s : Nat) (wt : Nat → Nat → Nat) (pr : Nat → Nat → Option Nat) (T : Tx) (M : Md), PT b len p T M → PR n E pl (s + 1) tg wt pr T.draft M.read → k + 1 ≤ p → len - p ≤ f →
    ∃ M', lw (G_159_56 (nI (tg s)) (nI (15 + 13 * s))) (f + 2) M = some M' ∧
      ((∃ T' wt' pr' p', p ≤ p' ∧ lw (G_77_44) (f + 2) (nI k, T) = some (.inl T') ∧ PF T T' M M' ∧ PT b len p' T' M' ∧ PR n E pl (s + 1) tg wt' pr' T'.draft M'.read) ∨
       (∃ T', lw (G_77_44) (f + 2) (nI k, T) = some (.inr (0, T')) ∧ PF T T' M M' ∧ PB len T' M')) := by
  intro f
  induction f with
  | zero =>
    intro p k s wt pr T M hP hR hk hf
    rcases p77s hP hR hk with ⟨a, c⟩ | ⟨X, M', e, a, c, d1, d2, d3, d4⟩ | ⟨p', wt', pr', T', M', c1, c2, c3, c4, c5, c6⟩
    · exact ⟨M, lw_end a, .inl ⟨T, wt, pr, p, Nat.le_refl _, lw_end c, ⟨rfl, rfl, MF.rf M⟩, hP, hR⟩⟩
    · have := hP.1.2.1
      exact ⟨M', (lw_one c).trans (p159w d2 (by omega) _ _ _), .inr ⟨X, lw_end a, d4, e, d1, d3, d2⟩⟩
    · exact absurd c4.2.2.1 (by omega)
  | succ f ih =>
    intro p k s wt pr T M hP hR hk hf
    rcases p77s hP hR hk with ⟨a, c⟩ | ⟨X, M', e, a, c, d1, d2, d3, d4⟩ | ⟨p', wt', pr', T', M', c1, c2, c3, c4, c5, c6⟩
    · exact ⟨M, lw_end a, .inl ⟨T, wt, pr, p, Nat.le_refl _, lw_end c, ⟨rfl, rfl, MF.rf M⟩, hP, hR⟩⟩
    · have := hP.1.2.1
      exact ⟨M', (lw_one c).trans (p159w d2 (by omega) _ _ _), .inr ⟨X, lw_end a, d4, e, d1, d3, d2⟩⟩
    · obtain ⟨X, x1, x2⟩ := ih p' (k + 1) s wt' pr' T' M' c4 c5 (by omega) (by omega)
      refine ⟨X, (lw_one c2).trans x1, ?_⟩
      rcases x2 with ⟨Y, w, q, p'', y0, y1, y2, y3, y4⟩ | ⟨Y, y1, y2, y3⟩
      · exact .inl ⟨Y, w, q, p'', by omega, (lw_one c1).trans y1, c3.tr y2, y3, y4⟩
      · exact .inr ⟨Y, (lw_one c1).trans y1, c3.tr y2, y3⟩
/-- the strategy statement -/
theorem p77 {p : Nat} (hP : PT b len p T M) (hR : PR n E pl sc tg wt pr T.draft M.read) :
    ∃ r T' M', F_77 T = some (bI r, T') ∧ F_159 M = some M' ∧ PF T T' M M' ∧ ((r = true ∧ ∃ sc' tg' wt' pr' p', p ≤ p' ∧ PT b len p' T' M' ∧ PR n E pl sc' tg' wt' pr' T'.draft M'.read) ∨ (r = false ∧ PB len T' M')) := by
  have hG := hR.2.2.2.2.2.2.2.2.1
  have hSO := hR.2.2.2.2.2.2.2.2.2.1
  have hCS := hR.2.2.2.1
  have hMS := hR.2.2.2.2.2.2.2.1
  have s6 := hSO.1
  have hn := hG.2.1
  have h1 := hG.1
  have h4 := hP.1.2.1
  by_cases hs : sc = 6
  · obtain ⟨hT, hM, hp, hC, hK, hw⟩ := id hP
    have k0 := tS_le (b := b) hp
    obtain ⟨y, hy, y1, y2, y3, y4, y5, y6, y7⟩ := md_wrong M (nI (tS b len p))
    refine ⟨false, T, y, ?_, ?_, ⟨rfl, rfl, y7⟩, .inr ⟨rfl, tS b len p, k0.2, hC.1, y6⟩⟩
    · unfold F_77
      rw [hCS.1, hs, if_neg (by decide)]
      rfl
    · unfold F_159
      rw [show ix 14 93 = some 14 from rfl, Option.bind_some, hMS.1, hs, if_neg (by decide), m145g hw hK.1, Option.bind_some, hy]
  · have hcl : T.draft.strategyCount < 6 := by rw [hCS.1]; exact nI_lt (b := 6) (by omega) (by decide)
    have hml : ¬ M.read 14 = 6 := by rw [hMS.1, show (6 : Int32) = nI 6 from rfl, nI_eq (by omega) (by omega)]; exact hs
    obtain ⟨A, X, a1, a2, a3, a4, a5, a6⟩ := nx hP
    have hRA : PR n E pl sc tg wt pr A.draft X.read := by rw [a4, a5]; exact hR
    rcases nt (lo := 0) (hi := n - 1) a3 (by decide) (by omega) with ⟨i1, _, v2, v3, v4, B, Y, b1, b2, b3, b4, b5, b6⟩ | ⟨_, v3, Y, b2, b3, ⟨e, e1, e2, e3⟩, b5, b6⟩
    · have hv := c70 (r := true) hRA v3
      have hm := m155 hRA b2
      have hgt := tE_gt a3.2.2.1 i1
      have hge := tE_ge (b := b) hP.2.2.1
      have hge2 := tE_ge (b := b) a3.2.2.1
      generalize tN b len (tE b len p) = t at *
      obtain ⟨f, g, h, f1, f2, f3, f4⟩ := c25 hRA.2.2.2.1 (by omega) t
      have cS := c25S hRA.2.2.2.1 hn f2 f3 f4
      obtain ⟨D, hD, g1⟩ := bd_sbw A.draft f g h (nI (sc + 1))
      rw [hD] at cS f1
      obtain ⟨C, hC, u1, u2, u3, u4, u5, u6, u7⟩ := tx_draft A D
      have txa := a3.1
      have hCx : TX b len C := ⟨u5.trans txa.1, txa.2.1, fun i hi => by rw [u6]; exact txa.2.2 i hi⟩
      have kk := tE_le (b := b) a3.2.2.1
      obtain ⟨C2, t4, t5, t6⟩ := c66 hCx kk.2 (u2.trans a3.2.2.2.1.2.1)
      have dr : C2.draft = D := t6.2.2.trans u7
      have hMSY : MS n sc tg wt pr Y.read := by rw [b5]; exact hRA.2.2.2.2.2.2.2.1
      obtain ⟨R', r1, r2, r3⟩ := m152 hMSY hn (by omega) t
      obtain ⟨Z, hZ, y1, y2, y3, y4, y5, y6, y7⟩ := md_read Y R'
      have hPZ : PT b len (tE b len (tE b len p)) C2 Z := ⟨hCx.of t6, b3.2.1.of y7, kk.2, t5, b3.2.2.2.2.1.of y1 y2 y3 y4, y6.trans b3.2.2.2.2.2⟩
      have hRZ : PR n E pl (sc + 1) (otg sc tg t) (owt sc wt) (opr sc pr) C2.draft Z.read := by
        rw [dr]
        exact hRA.str g1 cS (by rw [y5]; exact r3) (fun j hj => by rw [y5, r2 j hj, b5]) (oSO hSO (by omega) (by omega))
      obtain ⟨Q, q1, q2⟩ := p77l (len - 0 + 199998 - (len - 0)) _ 0 sc _ _ C2 Z hPZ hRZ (by omega) (by omega)
      have ef : len - 0 + 199998 - (len - 0) + 2 = 200000 := by omega
      rw [ef] at q1 q2
      have ot : otg sc tg t sc = t := if_pos rfl
      rw [ot] at q1
      have pf : PF T C2 M Z := ⟨(t6.1.trans u5).trans a6.1, (t6.2.1.trans u6).trans a6.2.1, (a6.2.2.tr b6.2.2).tr y7⟩
      have hF : F_159 M = some Q := by
        unfold F_159
        rw [show ix 14 93 = some 14 from rfl, Option.bind_some, if_pos hml, a2, Option.bind_some, hm, Option.bind_some]
        show (F_146 Y).bind _ = _
        rw [m146g b3.2.2.2.2.2, Option.bind_some, if_pos (by decide), r1, Option.bind_some, hZ, Option.bind_some]
        show (lw (G_159_56 (nI t) (15 + 13 * Y.read 14)) 200000 Z).bind _ = _
        rw [hMSY.1, show (15 : Int32) = nI 15 from rfl, show (13 : Int32) = nI 13 from rfl, pk_mul, nI_add, q1]
        rfl
      rcases q2 with ⟨W, w, pp, p', w0, w1, w2, w3, w4⟩ | ⟨W, w1, w2, w3⟩
      · refine ⟨true, W, Q, ?_, hF, pf.tr w2, .inl ⟨rfl, _, _, w, pp, p', by omega, w3, w4⟩⟩
        unfold F_77
        rw [if_pos hcl, a1, Option.bind_some, hv, Option.bind_some, if_pos (by decide), v4, f1, Option.bind_some, hC, Option.bind_some, t4, Option.bind_some]
        show (lw G_77_44 200000 (nI 0, C2)).bind _ = _
        rw [w1]
        rfl
      · refine ⟨false, W, Q, ?_, hF, pf.tr w2, .inr ⟨rfl, w3⟩⟩
        unfold F_77
        rw [if_pos hcl, a1, Option.bind_some, hv, Option.bind_some, if_pos (by decide), v4, f1, Option.bind_some, hC, Option.bind_some, t4, Option.bind_some]
        show (lw G_77_44 200000 (nI 0, C2)).bind _ = _
        rw [w1]
        rfl
    · have hv := c70 (r := false) hRA v3
      have hm := m155 hRA b2
      refine ⟨false, A, Y, ?_, ?_, ⟨a6.1, a6.2.1, a6.2.2.tr b6⟩, .inr ⟨rfl, e, e1, e3, e2⟩⟩
      · unfold F_77
        rw [if_pos hcl, a1, Option.bind_some, hv, Option.bind_some, if_neg (by decide)]
        rfl
      · unfold F_159
        rw [show ix 14 93 = some 14 from rfl, Option.bind_some, if_pos hml, a2, Option.bind_some, hm, Option.bind_some]
        show (F_146 Y).bind _ = _
        rw [m146n e2 (by omega), Option.bind_some, if_neg (by decide)]
end PARSE
