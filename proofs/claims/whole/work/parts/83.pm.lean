section PARSE
variable {b : Nat → Nat} {len n E sc : Nat} {pl : Nat → Nat} {T : Tx} {M : Md} {tg : Nat → Nat} {wt : Nat → Nat → Nat} {pr : Nat → Nat → Option Nat}
theorem bd_pile (B : Bd) (f : Nat → Int32) : ∃ y, B.w_pile f = y ∧ y.pile = f ∧ y.vertices = B.vertices ∧ y.edges = B.edges ∧ y.moveCount = B.moveCount ∧ y.strategyCount = B.strategyCount ∧ y.targets = B.targets ∧ y.weights = B.weights ∧ y.parents = B.parents := ⟨_, rfl, rfl, rfl, rfl, rfl, rfl, rfl, rfl, rfl⟩
theorem tE_ge {p : Nat} (hp : p ≤ len) : p ≤ tE b len p := by
  have := tS_le (b := b) hp
  have := tE_le (b := b) hp
  omega
/-- the pile statement -/
theorem p76 {p : Nat} (hP : PT b len p T M) (hR : PR n E pl sc tg wt pr T.draft M.read) :
    ∃ r T' M', F_76 T = some (bI r, T') ∧ F_158 M = some M' ∧ PF T T' M M' ∧ ((r = true ∧ ∃ pl' p', p ≤ p' ∧ PT b len p' T' M' ∧ PR n E pl' sc tg wt pr T'.draft M'.read) ∨ (r = false ∧ PB len T' M')) := by
  have hG := hR.2.2.2.2.2.2.2.2.1
  have hn := hG.2.1
  have h1 := hG.1
  obtain ⟨A, X, a1, a2, a3, a4, a5, a6⟩ := nx hP
  have hRA : PR n E pl sc tg wt pr A.draft X.read := by rw [a4, a5]; exact hR
  rcases nt (lo := 0) (hi := n - 1) a3 (by decide) (by omega) with ⟨_, _, v2, v3, v4, B, Y, b1, b2, b3, b4, b5, b6⟩ | ⟨_, v3, Y, b2, b3, ⟨e, e1, e2, e3⟩, b5, b6⟩
  · have hv := c70 (r := true) hRA v3
    have hm := m155 hRA b2
    generalize tN b len (tE b len p) = v at *
    rcases nt (lo := 0) (hi := 999) b3 (by decide) (by decide) with ⟨_, _, w2, w3, w4, C, Z, d1, d2, d3, d4, d5, d6⟩ | ⟨_, w3, Z, d2, d3, ⟨e, e1, e2, e3⟩, d5, d6⟩
    · generalize tN b len (tE b len (tE b len p)) = x at *
      obtain ⟨D, hD, f1, f2, f3, f4, f5, f6, f7, f8⟩ := bd_pile B.draft (upd B.draft.pile v (nI x))
      obtain ⟨T3, hT3, u1, u2, u3, u4, u5, u6, u7⟩ := tx_draft B D
      obtain ⟨Q, hQ, y1, y2, y3, y4, y5, y6, y7⟩ := md_read Z (upd Z.read (7 + v) (nI x))
      have bT := b3.1
      have hT3x : TX b len T3 := ⟨u5.trans bT.1, bT.2.1, fun i hi => by rw [u6]; exact bT.2.2 i hi⟩
      have kk := tE_le (b := b) b3.2.2.1
      obtain ⟨T4, t4, t5, t6⟩ := c66 hT3x kk.2 (u2.trans b3.2.2.2.1.2.1)
      have dr : T4.draft = D := t6.2.2.trans u7
      have bd : B.draft = T.draft := b4.trans a4
      have rd : Z.read = M.read := d5.trans (b5.trans a5)
      refine ⟨true, T4, Q, ?_, ?_, ?_, .inl ⟨rfl, fun w => if w = v then x else pl w, _, ?_, ⟨hT3x.of t6, d3.2.1.of y7, d3.2.2.1, t5, ⟨y2.trans d3.2.2.2.2.1.1, y1.trans d3.2.2.2.2.1.2.1, y3.trans d3.2.2.2.2.1.2.2.1, fun z => by rw [y4]; exact d3.2.2.2.2.1.2.2.2 z⟩, y6.trans d3.2.2.2.2.2⟩, ?_⟩⟩
      · unfold F_76
        have w3' : F_69 B 0 999 = some 1 := w3
        rw [a1, Option.bind_some, hv, Option.bind_some, if_pos (by decide), b1, Option.bind_some, w3', Option.bind_some, if_pos (by decide), v4, ixn (by omega) (by decide), Option.bind_some, w4, hD, Option.bind_some, hT3, Option.bind_some, t4]
        rfl
      · unfold F_158
        have d2' : F_149 Y 0 999 = some (nI x, Z) := d2
        rw [a2, Option.bind_some, hm, Option.bind_some]
        show (F_149 Y 0 999).bind _ = _
        rw [d2', Option.bind_some]
        show (F_146 Z).bind _ = _
        rw [m146g d3.2.2.2.2.2, Option.bind_some, if_neg (by decide), i7a, ixn (by omega) (by decide), Option.bind_some, hQ]
        rfl
      · exact ((a6.tr b6).tr ⟨t6.1.trans u5, t6.2.1.trans u6, d6.2.2.tr y7⟩)
      · have g1 := tE_ge (b := b) hP.2.2.1
        have g2 := tE_ge (b := b) a3.2.2.1
        have g3 := tE_ge (b := b) b3.2.2.1
        omega
      · rw [dr]
        obtain ⟨r1, r2, r3, r4, r5, r6, r7, r8, r9, r10, r11⟩ := hR
        rw [bd] at f1 f2 f3 f4 f5 f6 f7 f8
        rw [rd] at y5
        have rQ : ∀ j, ¬ j = 7 + v → Q.read j = M.read j := fun j hj => by rw [y5, pk_un hj]
        refine ⟨⟨f2.trans r1.1, f3.trans r1.2⟩, fun w hw => ?_, f4.trans r3, ⟨f5.trans r4.1, fun k hk => ?_⟩, ⟨by rw [rQ _ (by omega)]; exact r5.1, fun w hw => by rw [rQ _ (by omega)]; exact r5.2 w hw⟩, fun w hw => ?_, by rw [rQ _ (by omega)]; exact r7, ⟨by rw [rQ _ (by omega)]; exact r8.1, fun k hk => ?_⟩, r9, r10, fun w hw => ?_⟩
        · rw [f1]
          show _ = nI (if w = v then x else pl w)
          by_cases q : w = v
          · subst q; rw [pk_us, if_pos rfl]
          · rw [pk_un q, if_neg q]; exact r2 w hw
        · rw [f6, f7, f8]; exact r4.2 k hk
        · rw [y5]
          show _ = nI (if w = v then x else pl w)
          by_cases q : w = v
          · subst q; rw [pk_us, if_pos rfl]
          · rw [pk_un (by omega), if_neg q]; exact r6 w hw
        · rw [rQ _ (by omega)]
          exact ⟨(r8.2 k hk).1, fun w hw => by rw [rQ _ (by omega), rQ _ (by omega)]; exact (r8.2 k hk).2 w hw⟩
        · show (if w = v then x else pl w) ≤ 999
          split
          · exact w2
          · exact r11 w hw
    · refine ⟨false, B, Z, ?_, ?_, ⟨(a6.tr b6).1, (a6.tr b6).2.1, (a6.2.2.tr b6.2.2).tr d6⟩, .inr ⟨rfl, d3⟩⟩
      · unfold F_76
        have w3' : F_69 B 0 999 = some 0 := w3
        rw [a1, Option.bind_some, hv, Option.bind_some, if_pos (by decide), b1, Option.bind_some, w3', Option.bind_some, if_neg (by decide)]
        rfl
      · unfold F_158
        have d2' : F_149 Y 0 999 = some (nI 0, Z) := d2
        rw [a2, Option.bind_some, hm, Option.bind_some]
        show (F_149 Y 0 999).bind _ = _
        rw [d2', Option.bind_some]
        show (F_146 Z).bind _ = _
        rw [m146n e2 (by have := hP.1.2.1; omega), Option.bind_some, if_pos rfl]
        rfl
  · have hv := c70 (r := false) hRA v3
    have hm := m155 hRA b2
    have l4 := hP.1.2.1
    obtain ⟨Z, d1, d2, d3, d4, d5⟩ := m149n (x := 0) (z := 999) e2 (by omega)
    refine ⟨false, A, Z, ?_, ?_, ⟨a6.1, a6.2.1, (a6.2.2.tr b6).tr d5⟩, .inr ⟨rfl, e, e1, e3, d2⟩⟩
    · unfold F_76
      rw [a1, Option.bind_some, hv, Option.bind_some, if_neg (by decide)]
      rfl
    · unfold F_158
      rw [a2, Option.bind_some, hm, Option.bind_some]
      show (F_149 Y 0 999).bind _ = _
      rw [d1, Option.bind_some]
      show (F_146 Z).bind _ = _
      rw [m146n d2 (by omega), Option.bind_some, if_pos rfl]
      rfl
end PARSE
