/-! ===== THE DRAWN YARD: strategies ===== -/
section ADDC
variable {w w' : Nat → Nat} {a c : Nat} {Q Q' : Ps}
theorem Yd.cong {m : Nat → Option AC} (h : Yd w m a Q) (hn : Q'.n = Q.n) (hE : Q'.E = Q.E) (hp : ∀ v, v < Q.n → Q'.pl v = Q.pl v) (hmc : Q'.mc = Q.mc) (hsc : Q'.sc = Q.sc) (hst : ∀ k, k < Q.sc → Q'.tg k = Q.tg k ∧ ∀ v, v < Q.n → Q'.wt k v = Q.wt k v ∧ Q'.pr k v = Q.pr k v) : Yd w m a Q' := by
  obtain ⟨e, p, st, kn, ff, kf, h1, h2, h3, ⟨h4, f, h5, h6⟩, ⟨l, h7, h8, h9, h10⟩, h11⟩ := h
  refine ⟨e, p, st, kn, ff, kf, by rw [hn, hmc]; exact h1, h2, by rw [hn, hE]; exact h3, ⟨h4, f, by rw [hn]; exact h5, fun v hv => ?_⟩, ⟨l, h7, by rw [hsc]; exact h8, h9, fun k s hs => ?_⟩, by rw [hn, hE]; exact h11⟩
  · rw [hn] at hv
    rw [hp v hv]
    exact h6 v hv
  · have hk : k < Q.sc := by rw [← h8]; exact (List.getElem?_eq_some_iff.mp hs).1
    obtain ⟨b1, g, b2, b3, b4⟩ := h10 k s hs
    obtain ⟨c1, c2⟩ := hst k hk
    refine ⟨b1, g, b2, by rw [c1]; exact b3, fun v hv => ?_⟩
    rw [hn] at hv
    obtain ⟨d1, d2⟩ := c2 v hv
    rw [d1, d2]
    exact b4 v hv
/-- a place laid later is in no list of before -/
theorem yFresh {W0 : Wd} {m : Nat → Option AC} {e p st kn ff n : Nat} {mc kf : Int32} {l : List Nat} (y0 : Yd w W0.cl a Q) (kq : Kq (fun _ => True) w w' W0.cl m a) (h1 : m a = some (yo n e p mc st kn kf ff)) (al : AL w' m a st l) (hc : W0.top ≤ c) : ¬ c ∈ l := fun z => by
  obtain ⟨i, hi, hz⟩ := List.getElem_of_mem z
  obtain ⟨e3, p3, st3, kn3, ff3, kf3, b1, b2, -, -, ⟨l3, c1, c2, c3, c4⟩, -⟩ := id y0
  have b1' := (kq a _ b1 b2 trivial).1
  have : st3 = st := yo_st (b1'.symm.trans h1)
  subst this
  have hl : l3 = l := AL.uniq (c1.ext kq trivial trivial) al
  subst hl
  obtain ⟨-, f2, d2, -⟩ := c4 i c (by rw [List.getElem?_eq_getElem hi, hz])
  exact absurd (cl_lt d2) (by omega)
/-- a new strategy added -/
theorem yAddC {W0 V : Wd} (y0 : Yd w W0.cl a Q) (kq : Kq (fun _ => True) w w' W0.cl V.cl a) (y : Yd w' V.cl a Q') (hn : Q'.n ≤ 6) (hs : Q'.sc < 10) (hc : YA w' V.cl a c Q'.n (Q'.tg Q'.sc) (Q'.wt Q'.sc) (Q'.pr Q'.sc)) (hW : W0.top ≤ c) (ht : V.top < 880000) :
    ∃ st V' w2, V.gR a 7 4 = some st ∧ V.rc st 10 = some () ∧ F_354 V st c = some (1, V') ∧ Yd w2 V'.cl a (wsc Q' (Q'.sc + 1)) ∧ Fz w' w2 a 1 10 V V' := by
  obtain ⟨e, p, st, kn, ff, kf, h1, h2, h3, h4, ⟨l, q1, q2, q3, q4⟩, h6⟩ := y
  obtain ⟨V3, w3, e3, y3, f3, -⟩ := yAddS (Q := Q') h1 h2 h3 h4 q1 q2 q3 q4 h6 hn hs hc (yFresh y0 kq h1 q1 hW) ht
  exact ⟨st, V3, w3, yStrs h1, by obtain ⟨_, _, q, _⟩ := q1; exact rc_ q, e3, y3, f3⟩
end ADDC
/-- one cell of thirteen written, nothing else -/
def WC (X V : Wd) (c : Nat) (g : Nat → Int32) : Prop := (∀ b, ¬ b = c → V.cl b = X.cl b) ∧ V.cl c = some (.inl (0, 13, .inl g)) ∧ Sm X V ∧ Co 0 0 X V ∧ V.top = X.top
theorem WC.put {X V : Wd} {c : Nat} {g : Nat → Int32} (h : WC X V c g) {i : Nat} (hi : i < 13) (y : Int32) : ∃ V', V.sI c (nI i) y = some V' ∧ WC X V' c (upd g i y) := by
  obtain ⟨h1, h2, h3, h4, h5⟩ := h
  obtain ⟨V', e, k⟩ := sI_ h2 hi (by decide) y
  exact ⟨V', e, fun b hb => by rw [k.1, upm_n hb]; exact h1 b hb, by rw [k.1]; exact upm_s, h3.tr k.sm, (h4.tr k.co).up (by omega) (by omega), k.2.2.2.2.2.2.2.2.2.1.trans h5⟩
theorem WC.cong {X V : Wd} {c : Nat} {g g' : Nat → Int32} (h : WC X V c g) (k : g = g') : WC X V c g' := k ▸ h
/-- what a strategy's row may be -/
def SR (n t : Nat) (wt : Nat → Nat) (pr : Nat → Option Nat) : Prop := pr t = none ∧ ∀ v, wt v ≤ 64 ∧ (∀ q, pr v = some q → q < n) ∧ (pr v = none → wt v = 0)
section DSTR
variable {L : Nat} {xs : Nat → Int32} {w : Nat → Nat} {W X : Wd} {a c n x : Nat} {Q : Ps}
theorem upd_f (g : Nat → Int32) (k j : Nat) (y : Int32) : upd g k y j = if j = k then y else g j := by
  by_cases h : j = k
  · subst h; rw [pk_us, if_pos rfl]
  · rw [pk_un h, if_neg h]
theorem r309_234 {x1 x3 x4 : Int32} {V : Wd} {g : Nat → Int32} (h : WC X V c g) : ∃ V', lw (G_309_234 L xs x1 a x3 x4 c) 200000 (0, V) = some V' ∧ WC X V' c (fun j => if 7 ≤ j ∧ j < 13 then -1 else g j) := by
  refine lw_for (n := 6) (fun i s => ∃ V, s = (nI i, V) ∧ WC X V c (fun j => if 7 ≤ j ∧ j < 7 + i then -1 else g j)) ?_ ?_ ⟨V, rfl, h.cong (funext fun j => (if_neg (by omega)).symm)⟩ (by omega)
  · rintro i s hi ⟨V, rfl, h⟩
    left
    obtain ⟨V', e, h'⟩ := h.put (i := 7 + i) (by omega) (-1)
    refine ⟨(nI (i + 1), V'), ?_, V', rfl, h'.cong (funext fun j => ?_)⟩
    · unfold G_309_234
      dsimp only
      rw [if_neg (show ¬ 6 ≤ nI i from nI_ge (b := 6) hi (by omega)), z7, nI_add, e, Option.bind_some, nI_1]
    · rw [upd_f]
      by_cases q : j = 7 + i
      · rw [if_pos q, if_pos (by omega)]
      · rw [if_neg q]
        by_cases q2 : 7 ≤ j ∧ j < 7 + i
        · rw [if_pos q2, if_pos (by omega)]
        · rw [if_neg q2, if_neg (by omega)]
  · rintro s ⟨V, rfl, h⟩
    refine ⟨V, ?_, h⟩
    unfold G_309_234
    dsimp only
    rw [if_pos (show 6 ≤ nI 6 from nI_le (Nat.le_refl _) (by omega))]
theorem r309_259 (hL : L ≤ 260) {t k : Nat} (hk : k < 4) (ht : t < Q.n) (h1 : 1 ≤ Q.n) (hn : Q.n ≤ 6) {x1 : Int32} {V : Wd} {g : Nat → Int32} (hy : ∀ V g, WC X V c g → Yd w V.cl a Q) (h : WC X V c g) (g0 : g 0 = nI t) (gw : ∀ v, v < 6 → g (1 + v) = nI 0) (gp : ∀ v, v < 6 → g (7 + v) = pI none) :
    ∃ V', lw (G_309_259 L xs x1 a (nI k) (nI t) c) 200000 (0, V) = some V' ∧ ∃ g wt pr, WC X V' c g ∧ g 0 = nI t ∧ (∀ v, v < 6 → g (1 + v) = nI (wt v) ∧ g (7 + v) = pI (pr v)) ∧ SR Q.n t wt pr := by
  refine lw_for (n := Q.n) (fun i s => ∃ V g wt pr, s = (nI i, V) ∧ WC X V c g ∧ g 0 = nI t ∧ (∀ v, v < 6 → g (1 + v) = nI (wt v) ∧ g (7 + v) = pI (pr v)) ∧ SR Q.n t wt pr) ?_ ?_ ⟨V, g, fun _ => 0, fun _ => none, rfl, h, g0, fun v hv => ⟨gw v hv, gp v hv⟩, rfl, fun v => ⟨Nat.zero_le _, fun q z => (by cases z), fun _ => rfl⟩⟩ (by omega)
  · rintro i s hi ⟨V, g, wt, pr, rfl, h, g0, gv, hS⟩
    left
    have y := hy V g h
    obtain ⟨m1, m2⟩ := yMany' y
    obtain ⟨e, p, st, kn, ff, kf, y1, -, y3, -⟩ := id y
    obtain ⟨r, f, r1, -, -, r2⟩ := YM.row y3 hn hi
    have ei : (26 + nI k) + nI i = nI (26 + k + i) := by rw [show (26 : Int32) = nI 26 from rfl, nI_add, nI_add]
    have hz : dr L xs (26 + k + i) 1000000 < 1000000 := dr_lt (by decide)
    have ed : F_366 L xs V (nI (26 + k + i)) 1000000 = some (nI (dr L xs (26 + k + i) 1000000)) := h366 (m := 1000000) hL (by omega) (by decide) (by decide)
    generalize dr L xs (26 + k + i) 1000000 = z at *
    have z4' : nI z - nI z / 4 * 4 = nI (z % 4) := pk_rem (a := z) (d := 4) (by omega) (by decide) (by decide)
    have skip : ∀ o, o = J_309_259_j375 L xs V x1 a (nI k) (nI t) c (nI i) → G_309_259 L xs x1 a (nI k) (nI t) c (nI i, V) = o → ∃ s', G_309_259 L xs x1 a (nI k) (nI t) c (nI i, V) = some (.inl s') ∧ ∃ V g wt pr, s' = (nI (i + 1), V) ∧ WC X V c g ∧ g 0 = nI t ∧ (∀ v, v < 6 → g (1 + v) = nI (wt v) ∧ g (7 + v) = pI (pr v)) ∧ SR Q.n t wt pr := by
      rintro o rfl ho
      refine ⟨(nI (i + 1), V), ?_, V, g, wt, pr, rfl, h, g0, gv, hS⟩
      rw [ho]
      unfold J_309_259_j375
      rw [nI_1]
    by_cases hit : i = t
    · refine skip _ rfl ?_
      unfold G_309_259
      dsimp only
      rw [m1, Option.bind_some, if_neg (nI_ge hi (by omega)), ei, ed, Option.bind_some, if_pos (by rw [hit])]
    · have hit' : ¬ nI i = nI t := by rw [nI_eq (by omega) (by omega)]; exact hit
      by_cases hz4 : z % 4 = 0
      · refine skip _ rfl ?_
        unfold G_309_259
        dsimp only
        rw [m1, Option.bind_some, if_neg (nI_ge hi (by omega)), ei, ed, Option.bind_some, if_neg hit', z4', if_neg (fun q => q (by rw [hz4]; rfl))]
      · -- a weight and a parent
        have go : ∀ (wv q : Nat), wv ≤ 64 → q < Q.n → ∃ V1 V2 g2, V.sI c (1 + nI i) (nI wv) = some V1 ∧ V1.gR a 7 1 = some e ∧ V1.gI a 7 0 = some (nI Q.n) ∧ V1.aR e (nI i) = some r ∧ V1.aB r (nI t) = some (bI (ad Q.E i t)) ∧ V1.sI c (7 + nI i) (nI q) = some V2 ∧ WC X V2 c g2 ∧ g2 0 = nI t ∧ ∃ wt pr, (∀ v, v < 6 → g2 (1 + v) = nI (wt v) ∧ g2 (7 + v) = pI (pr v)) ∧ SR Q.n t wt pr := by
          intro wv q hwv hq
          obtain ⟨V1, e1, h1'⟩ := h.put (i := 1 + i) (by omega) (nI wv)
          obtain ⟨V2, e2, h2'⟩ := h1'.put (i := 7 + i) (by omega) (nI q)
          have y1' := hy V1 _ h1'
          obtain ⟨e', p', st', kn', ff', kf', b1, -, b3, -⟩ := id y1'
          obtain ⟨r', f', c1, -, -, c2⟩ := YM.row b3 hn hi
          have hca : ¬ a = c := fun q => by
            have k1 := h.2.1
            rw [← q] at k1
            rw [k1] at y1
            cases y1
          have be : e' = e := by
            rw [h1'.1 a hca] at b1
            have q1 := h.1 a hca
            rw [q1] at y1
            rw [y1] at b1
            unfold yo at b1
            injection b1 with b1
            injection b1 with b1
            injection b1 with _ b1
            injection b1 with _ b1
            injection b1 with b1 _
            injection b1 with b1
            exact b1.symm
          subst be
          have er : r' = r := by
            have q1 : V1.aR e' (nI i) = V.aR e' (nI i) := by
              have hce : ¬ e' = c := fun q => by
                obtain ⟨_, _, _, k2, _⟩ := id y3
                have k1 := h.2.1
                rw [← q] at k1
                rw [k1] at k2
                cases k2
              unfold Wd.aR
              rw [h1'.1 e' hce, h.1 e' hce]
            rw [q1, r1] at c1
            cases c1
            rfl
          subst er
          refine ⟨V1, V2, _, by rw [z1, nI_add]; exact e1, yEdge b1, yMany b1, c1, c2 t ht, by rw [z7, nI_add]; exact e2, h2', ?_, fun v => if v = i then wv else wt v, fun v => if v = i then some q else pr v, fun v hv => ⟨?_, ?_⟩, ?_, fun v => ⟨?_, fun q' => ?_, ?_⟩⟩
          · rw [upd_f, if_neg (by omega), upd_f, if_neg (by omega)]; exact g0
          · rw [upd_f, if_neg (by omega), upd_f]
            dsimp only
            by_cases q1 : v = i
            · rw [if_pos (by omega), if_pos q1]
            · rw [if_neg (by omega), if_neg q1]; exact (gv v hv).1
          · rw [upd_f]
            dsimp only
            by_cases q1 : v = i
            · rw [if_pos (by omega), if_pos q1]; rfl
            · rw [if_neg (by omega), if_neg q1, upd_f, if_neg (by omega)]; exact (gv v hv).2
          · show (if t = i then some q else pr t) = none
            rw [if_neg (fun z => hit z.symm)]
            exact hS.1
          · dsimp only
            split
            · exact hwv
            · exact (hS.2 v).1
          · dsimp only
            split
            · intro z; cases z; exact hq
            · exact (hS.2 v).2.1 q'
          · dsimp only
            split
            · intro z; cases z
            · exact (hS.2 v).2.2
        have pre : G_309_259 L xs x1 a (nI k) (nI t) c (nI i, V) = (if bI (ad Q.E i t) = 0 then J_309_259_j338 L xs V x1 a (nI k) (nI t) c (nI i) (nI z) ((nI z / 7) - (nI z / 7) / 12 * 12) (1 + nI i) c else J_309_259_j338 L xs V x1 a (nI k) (nI t) c (nI i) (nI z) (1 <<< ((4 + (nI z - nI z / 3 * 3)) &&& 31)) (1 + nI i) c) := by
          unfold G_309_259
          dsimp only
          rw [m1, Option.bind_some, if_neg (nI_ge hi (by omega)), ei, ed, Option.bind_some, if_neg hit', z4', if_pos (nI_ne0 (by omega) (by omega)), yEdge y1, Option.bind_some, r1, Option.bind_some, r2 t ht, Option.bind_some]
        cases had : ad Q.E i t with
        | true =>
          have ew : (1 : Int32) <<< ((4 + (nI z - nI z / 3 * 3)) &&& 31) = nI (1 <<< (4 + z % 3)) := by
            have q : nI z - nI z / 3 * 3 = nI (z % 3) := pk_rem (a := z) (d := 3) (by omega) (by decide) (by decide)
            rw [q, z4, nI_add, z1]
            exact shl_n 1 (k := 4 + z % 3) (by omega)
          have hw : 1 <<< (4 + z % 3) ≤ 64 := by
            have := Nat.mod_lt z (show 0 < 3 by decide)
            rcases (show z % 3 = 0 ∨ z % 3 = 1 ∨ z % 3 = 2 by omega) with q | q | q <;> rw [q] <;> decide
          obtain ⟨V1, V2, g2, s1, s2, s2', s3, s4, s5, s6, s7, wt', pr', s8, s9⟩ := go (1 <<< (4 + z % 3)) t hw ht
          refine ⟨(nI (i + 1), V2), ?_, V2, g2, wt', pr', rfl, s6, s7, s8, s9⟩
          rw [pre, had, if_neg (by decide), ew]
          unfold J_309_259_j338
          rw [s1, Option.bind_some, s2, Option.bind_some, s3, Option.bind_some, s4, Option.bind_some, had, if_neg (by decide)]
          unfold J_309_259_j374
          rw [s5, Option.bind_some]
          unfold J_309_259_j375
          rw [nI_1]
        | false =>
          have ew : (nI z / 7) - (nI z / 7) / 12 * 12 = nI (z / 7 % 12) := by
            have q : nI z / 7 = nI (z / 7) := pk_div (a := z) (d := 7) (by omega) (by decide) (by decide)
            rw [q]
            exact pk_rem (a := z / 7) (d := 12) (by omega) (by decide) (by decide)
          have ep : (nI z / 90) - (nI z / 90) / nI Q.n * nI Q.n = nI (z / 90 % Q.n) := by
            have q : nI z / 90 = nI (z / 90) := pk_div (a := z) (d := 90) (by omega) (by decide) (by decide)
            rw [q]
            exact pk_rem (a := z / 90) (d := Q.n) (by omega) (by omega) (by omega)
          obtain ⟨V1, V2, g2, s1, s2, s2', s3, s4, s5, s6, s7, wt', pr', s8, s9⟩ := go (z / 7 % 12) (z / 90 % Q.n) (by omega) (Nat.mod_lt _ (by omega))
          refine ⟨(nI (i + 1), V2), ?_, V2, g2, wt', pr', rfl, s6, s7, s8, s9⟩
          rw [pre, had, if_pos (by decide), ew]
          unfold J_309_259_j338
          rw [s1, Option.bind_some, s2, Option.bind_some, s3, Option.bind_some, s4, Option.bind_some, had, if_pos (by decide), s2', Option.bind_some, if_neg (nI_ne0 (by omega) (by omega)), ep]
          unfold J_309_259_j374
          rw [s5, Option.bind_some]
          unfold J_309_259_j375
          rw [nI_1]
  · rintro s ⟨V, g, wt, pr, rfl, h, g0, gv, hS⟩
    refine ⟨V, ?_, g, wt, pr, h, g0, gv, hS⟩
    obtain ⟨m1, m2⟩ := yMany' (hy V g h)
    unfold G_309_259
    dsimp only
    rw [m1, Option.bind_some, if_pos (nI_le (Nat.le_refl _) (by omega))]
/-- a position that its text tells -/
def TP (Q : Ps) : Prop := VQ Q ∧ Q.mc = 0 ∧ (∀ v, Q.pl v ≤ 8) ∧ Q.sc ≤ 3 ∧ ∀ k, k < Q.sc → SR Q.n (Q.tg k) (Q.wt k) (Q.pr k)
theorem r309_195 (hL : L ≤ 260) (hx : x < 2 ^ 31) (h : Yd w W.cl a Q) (hT : TP Q) (h0 : Q.sc = 0) (htop : W.top < 850000) :
    ∃ V w', lw (G_309_195 L xs (nI x) a) 200000 (0, W) = some V ∧ ∃ R, Yd w' V.cl a R ∧ TP R ∧ Fz w w' a 6 69 W V := by
  have hn := hT.1.1.2.1
  have h1 := hT.1.1.1
  have e1 : nI x / 18 - nI x / 18 / 4 * 4 = nI (x / 18 % 4) := by
    have q : nI x / 18 = nI (x / 18) := pk_div (a := x) (d := 18) hx (by decide) (by decide)
    rw [q]
    exact pk_rem (a := x / 18) (d := 4) (by omega) (by decide) (by decide)
  refine (fun ⟨V, e, w', R, q⟩ => ⟨V, w', e, R, q⟩ : (∃ V, lw (G_309_195 L xs (nI x) a) 200000 (0, W) = some V ∧ ∃ w' R, Yd w' V.cl a R ∧ TP R ∧ Fz w w' a 6 69 W V) → _) ?_
  refine lw_for (n := x / 18 % 4) (fun k s => ∃ V w' R, s = (nI k, V) ∧ Yd w' V.cl a R ∧ TP R ∧ R.sc = k ∧ R.n = Q.n ∧ Fz w w' a (2 * k) (23 * k) W V) ?_ ?_ ⟨W, w, Q, rfl, h, hT, h0, rfl, (Fz.rf w a W).up (by omega) (by omega)⟩ (by omega)
  · rintro k s hk ⟨V, w', R, rfl, y, hR, hsc, hRn, f⟩
    left
    have hVt : V.top ≤ W.top + 8 := by have q1 := f.2.2.2.1.1; have q2 := f.2.2.2.1.2.2; omega
    obtain ⟨m1, m2⟩ := yMany' y
    rw [hRn] at m1
    have ed : F_366 L xs V (24 + nI k) (nI Q.n) = some (nI (dr L xs (24 + k) Q.n)) := by
      rw [show (24 : Int32) = nI 24 from rfl, nI_add]
      exact h366 hL (by omega) (by omega) (by omega)
    have ht : dr L xs (24 + k) Q.n < Q.n := dr_lt (by omega)
    generalize dr L xs (24 + k) Q.n = t at *
    obtain ⟨X, e2, k2⟩ := nA_ (W := V) (t := 0) (n := 13) (by decide) (by omega)
    have n2 := k2.new 0
    rw [Nat.add_zero] at n2
    have n2 : X.cl V.top = some (.inl (0, 13, .inl (fun _ => 0))) := n2
    have w0 : WC X X V.top (fun _ => 0) := ⟨fun _ _ => rfl, n2, Sm.rf X, Co.rf X, rfl⟩
    obtain ⟨V1, e3, c1⟩ := w0.put (i := 0) (by decide) (nI t)
    obtain ⟨V2, e4, c2⟩ := r309_234 (L := L) (xs := xs) (a := a) (x1 := nI x) (x3 := nI k) (x4 := nI t) c1
    have hy : ∀ V' g, WC X V' V.top g → Yd (fr w' a V.top) V'.cl a R := fun V' g hg => y.ext (fun b c hb ho _ => ⟨by
      have hlt := cl_lt hb
      rw [hg.1 b (by omega), k2.1, if_neg (by omega)]
      exact hb, (fr_o (cl_lt hb)).trans ho⟩) (by omega)
    obtain ⟨V3, e5, g, wt, pr, c3, g0, gv, hS⟩ := r309_259 (xs := xs) (Q := R) (w := fr w' a V.top) (a := a) (x1 := nI x) hL (k := k) (t := t) (by omega) (by omega) (by omega) (by omega) hy c2 (by rw [if_neg (by omega)]; exact pk_us) (fun v hv => by
      rw [if_neg (by omega), upd_f, if_neg (by omega)]
      rfl) (fun v hv => by
      rw [if_pos (by omega)]
      rfl)
    rw [hRn] at hS
    have hRV := hR.1
    obtain ⟨R', hR'⟩ : ∃ R', R' = mP R.n R.E R.pl R.mc R.sc (otg R.sc R.tg t) (fun i v => if i = R.sc then wt v else R.wt i v) (fun i v => if i = R.sc then pr v else R.pr i v) := ⟨_, rfl⟩
    have y3 : Yd (fr w' a V.top) V3.cl a R' := by
      subst hR'
      refine (hy V3 g c3).cong rfl rfl (fun _ _ => rfl) rfl rfl fun i hi => ⟨if_neg (show ¬ i = R.sc by omega), fun v _ => ⟨if_neg (show ¬ i = R.sc by omega), if_neg (show ¬ i = R.sc by omega)⟩⟩
    have kq : Kq (fun _ => True) w' (fr w' a V.top) V.cl V3.cl a := fun b c hb ho _ => ⟨by
      have hlt := cl_lt hb
      rw [c3.1 b (by omega), k2.1, if_neg (by omega)]
      exact hb, (fr_o (cl_lt hb)).trans ho⟩
    have n' : R'.n = Q.n := by subst hR'; exact hRn
    have s' : R'.sc = k := by subst hR'; exact hsc
    have t3 : V3.top = V.top + 1 := c3.2.2.2.2.trans k2.2.2.1
    obtain ⟨st, V4, w4, a1, a2, a3, a4, a5⟩ := yAddC (c := V.top) y kq y3 (by omega) (by omega) ⟨fr_n (Nat.le_refl _), g, c3.2.1, by
      rw [g0]
      subst hR'
      exact congrArg nI (if_pos rfl).symm, fun v hv => by
      have hv6 : v < 6 := by omega
      subst hR'
      obtain ⟨q1, q2⟩ := gv v hv6
      refine ⟨q1.trans (congrArg nI (if_pos rfl).symm), q2.trans (congrArg pI (if_pos rfl).symm)⟩⟩ (Nat.le_refl _) (by omega)
    refine ⟨(nI (k + 1), V4), ?_, V4, w4, _, rfl, a4, ?_, ?_, n', ?_⟩
    · have e3 : X.sI V.top 0 (nI t) = some V1 := e3
      have e2 : V.nA 0 13 = some (V.top, X) := e2
      unfold G_309_195
      dsimp only
      rw [e1, if_neg (nI_ge hk (by omega)), m1, Option.bind_some, ed, Option.bind_some, e2, Option.bind_some]
      dsimp only
      rw [e3, Option.bind_some, e4, Option.bind_some, e5, Option.bind_some, a1, Option.bind_some, a2, Option.bind_some, a3, Option.bind_some]
      dsimp only
      rw [nI_1]
    · subst hR'
      obtain ⟨⟨b1, b2, b3, b4⟩, b5, b6, b7, b8⟩ := hR
      have hsr : ∀ i, i < R.sc + 1 → SR R.n (otg R.sc R.tg t i) (fun v => if i = R.sc then wt v else R.wt i v) (fun v => if i = R.sc then pr v else R.pr i v) := fun i hi => by
        unfold otg
        by_cases q : i = R.sc
        · simp only [if_pos q]
          rw [hRn]
          exact hS
        · simp only [if_neg q]
          exact b8 i (by omega)
      refine ⟨⟨b1, b2, ⟨show R.sc + 1 ≤ 6 by omega, fun i hi => ?_⟩, b4⟩, b5, b6, show R.sc + 1 ≤ 3 by omega, hsr⟩
      have hi : i < R.sc + 1 := hi
      refine ⟨?_, fun v hv => ⟨((hsr i hi).2 v).1, ((hsr i hi).2 v).2.1⟩⟩
      show otg R.sc R.tg t i < R.n
      unfold otg
      split
      · omega
      · exact (b3.2 i (by omega)).1
    · show R'.sc + 1 = k + 1
      rw [s']
    · have fb : Fz w' (fr w' a V.top) a 1 13 V V3 := ⟨fun b hb => fr_o hb, fun b hb _ => by rw [c3.1 b (by omega), k2.1, if_neg (by omega)], k2.2.1.tr c3.2.2.1, (k2.co.tr c3.2.2.2.1).up (by show 1 + 0 ≤ 1; decide) (by omega), by omega⟩
      exact (f.tr (fb.tr a5)).up (by omega) (by omega)
  · rintro s ⟨V, w', R, rfl, y, hR, hsc, hRn, f⟩
    refine ⟨V, ?_, w', R, y, hR, f.up (by omega) (by omega)⟩
    unfold G_309_195
    dsimp only
    rw [e1, if_pos (nI_le (Nat.le_refl _) (by omega))]
theorem yDrawn (hL : L ≤ 260) (htop : W.top < 830000) : ∃ V w' R, F_309 L xs W = some (W.top, V) ∧ Yd w' V.cl W.top R ∧ TP R ∧ Fz w w' W.top 18 128 W V := by
  have sb : am_SB = 1000000 := rfl
  have e0 : F_366 L xs W 0 1000000000 = some (nI (dr L xs 0 1000000000)) := h366 (i := 0) (m := 1000000000) hL (by decide) (by decide) (by decide)
  have hx : dr L xs 0 1000000000 < 1000000000 := dr_lt (by decide)
  generalize dr L xs 0 1000000000 = x at *
  have en : 1 + (nI x - nI x / 6 * 6) = nI (1 + x % 6) := by
    have q : nI x - nI x / 6 * 6 = nI (x % 6) := pk_rem (a := x) (d := 6) (by omega) (by decide) (by decide)
    rw [q, z1, nI_add]
  have hm := Nat.mod_lt x (show 0 < 6 by decide)
  obtain ⟨W1, e1, s1, t1, f1⟩ := yNew (w := w) (W := W) (by omega)
  obtain ⟨W2, e2, y2, f2, -⟩ := yMake (n := 1 + x % 6) s1 (fr_n (Nat.le_refl _)) (by omega) (by omega) (by omega)
  obtain ⟨W3, e3, E, ⟨y3, f3⟩, hG, hC⟩ := r309_24 (L := L) (xs := xs) (x := x) hL (by omega) (by omega) (by omega) y2
  obtain ⟨W4, e4, E4, ⟨y4, f4⟩, hG4, hC4⟩ := r309_63 (L := L) (xs := xs) (x := x) (n := 1 + x % 6) hL (by omega) (W := W3) ⟨y3, fun _ _ => rfl, Sm.rf W3, Co.rf W3, rfl⟩ hG hC
  obtain ⟨W5, e5, pl, ⟨y5, f5⟩, h8⟩ := r309_153 (L := L) (xs := xs) (x := x) (n := 1 + x % 6) (E := E4) hL (by omega) (W := W4) ⟨y4, fun _ _ => rfl, Sm.rf W4, Co.rf W4, rfl⟩
  have fz5 := f1.tr (f2.tr (f3.fz.tr (f4.fz.tr f5.fz)))
  have ht5 : W5.top ≤ W.top + 12 := by have q1 := fz5.2.2.2.1.1; have q2 := fz5.2.2.2.1.2.2; omega
  obtain ⟨W6, w6, e6, R, y6, hR, f6⟩ := r309_195 (L := L) (xs := xs) (x := x) hL (by omega) y5 ⟨⟨hG4, hC4, ⟨Nat.zero_le _, fun k hk => absurd hk (Nat.not_lt_zero _)⟩, fun v _ => Nat.le_trans (h8 v) (by decide)⟩, rfl, h8, Nat.zero_le _, fun k hk => absurd hk (Nat.not_lt_zero _)⟩ rfl (by omega)
  refine ⟨W6, w6, R, ?_, y6, hR, (fz5.tr f6).up (by decide) (by decide)⟩
  unfold F_309
  rw [e0, Option.bind_some, e1, Option.bind_some]
  dsimp only
  rw [rp_ (by omega), Option.bind_some, en, e2, Option.bind_some, e3, Option.bind_some, e4, Option.bind_some, e5, Option.bind_some, e6, Option.bind_some, Option.bind_some]
end DSTR
