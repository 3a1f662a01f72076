/-! ===== THE YARD IS AS THE CLASS: numbers ===== -/
theorem mxl_c (f : Nat → Nat) (c : Nat) : ∀ i, mxl f c i = max c (mxl f 0 i)
  | 0 => (Nat.max_zero c).symm
  | i + 1 => by rw [mxl, mxl, mxl_c f c i, Nat.max_assoc]
/-- the greatest distance of the rows so far -/
def rm (n E : Nat) : Nat → Nat
  | 0 => 0
  | u + 1 => mxl (ds n E u) (rm n E u) n
theorem rm_eq (n E : Nat) : ∀ u, rm n E u = mxl (fun u => mxl (ds n E u) 0 n) 0 u
  | 0 => rfl
  | u + 1 => by rw [rm, mxl, mxl_c, rm_eq n E u]
theorem rm_le (n E : Nat) : ∀ u, rm n E u ≤ 6
  | 0 => Nat.zero_le _
  | u + 1 => mxl_le (rm_le n E u) fun v _ => ds_le6 n E u v
/-- a sum over pairs, symmetric -/
theorem sm_add (f g : Nat → Nat) : ∀ n, sm (fun v => f v + g v) n = sm f n + sm g n
  | 0 => rfl
  | n + 1 => by rw [sm, sm, sm, sm_add f g n]; omega
theorem sm_pairs {s : Nat → Nat → Nat} : ∀ n, (∀ u v, u < n → v < n → s u v = s v u) → (∀ u, u < n → s u u = 0) → sm (fun v => sm (s v) n) n = 2 * sm (fun v => sm (s v) v) n
  | 0, _, _ => rfl
  | n + 1, hs, hz => by
    have ih := sm_pairs (s := s) n (fun u v hu hv => hs u v (by omega) (by omega)) (fun u hu => hz u (by omega))
    have e1 : sm (fun v => sm (s v) (n + 1)) n = sm (fun v => sm (s v) n) n + sm (fun v => s v n) n := sm_add (fun v => sm (s v) n) (fun v => s v n) n
    have e2 : sm (fun v => s v n) n = sm (s n) n := sm_cong fun v hv => hs v n (by omega) (by omega)
    have e3 : sm (s n) (n + 1) = sm (s n) n := by rw [sm, hz n (by omega), Nat.add_zero]
    show sm (fun v => sm (s v) (n + 1)) n + sm (s n) (n + 1) = 2 * (sm (fun v => sm (s v) v) n + sm (s n) n)
    rw [e1, e2, e3, ih]
    omega
theorem ye_ec {n E : Nat} (h : Gr n E) : ec n E = ye E n := by
  have hn := h.2.1
  have e1 : sm (fun v => pcn (nb E v) 6) n = sm (fun v => sm (fun o => if ad E v o then 1 else 0) n) n := sm_cong fun v hv => by
    have hb : nb E v < 2 ^ n := bit_lt fun i hi => by
      cases q : (nb E v).testBit i with
      | false => rfl
      | true => exact absurd ((nb_ad h).1 q).1 (by omega)
    rw [pcn_six hb hn]
    unfold pcn
    refine sm_cong fun o ho => ?_
    rw [nb_bit, decide_eq_true (show o < 6 by omega), Bool.true_and]
  unfold ec ye
  rw [e1, sm_pairs n ?_ ?_, Nat.mul_div_cancel_left _ (by decide)]
  · intro u v hu hv
    have : ad E u v = ad E v u := by
      cases q : ad E u v with
      | true => exact (h.sym hv q).symm
      | false =>
        cases q2 : ad E v u with
        | false => rfl
        | true => rw [h.sym hu q2] at q; cases q
    rw [this]
  · intro u hu
    cases q : ad E u u with
    | true => exact absurd rfl (h.ne hu q)
    | false => rfl
section ISAS
variable {w : Nat → Nat} {X W : Wd} {a T : Nat} {Q : Ps} {H : List Ps} {S : Option Ps} {r : Int32}
theorem r317_22 (h : Yd w X.cl a Q) (hc : CI Q H S r X) (hD : DM X.cl T Q.n (ds Q.n Q.E)) {u c : Nat} (hu : u < Q.n) (hc6 : c ≤ 6) : lw (G_317_22 a T (nI u)) 200000 (nI c, 0, X) = some (.inl (nI (mxl (ds Q.n Q.E u) c Q.n), X)) := by
  have hn := hc.2.1.1.2.1
  obtain ⟨e, p, st, kn, ff, kf, h1, -, h3, -⟩ := h
  obtain ⟨rw_, f, e1, -, -, e2⟩ := YM.row h3 hn hu
  refine lw_seq (fun i => (nI (mxl (ds Q.n Q.E u) c i), nI i, X)) (n := Q.n) (fun i hi => ?_) ?_ (by omega)
  · have d1 := hD.row hn hu
    have d2 := hD.get hn hu hi
    have l1 := mxl_le (f := ds Q.n Q.E u) hc6 (i := i) (fun j _ => ds_le6 Q.n Q.E u j)
    have l2 := ds_le6 Q.n Q.E u i
    unfold G_317_22
    dsimp only
    rw [yMany h1, Option.bind_some, if_neg (nI_ge hi (by omega)), cIsEdge hc hu hi, Option.bind_some]
    dsimp only
    rw [xq_l, yEdge h1, Option.bind_some, e1, Option.bind_some, e2 i hi, Option.bind_some, if_neg (fun z => z rfl), cDistance hc hu hi, Option.bind_some]
    dsimp only
    rw [xq_l, d1, Option.bind_some, d2, Option.bind_some, if_pos rfl, Option.bind_some, d2, Option.bind_some, imx_n (by omega) (by omega), nI_1]
    rfl
  · unfold G_317_22
    dsimp only
    rw [yMany h1, Option.bind_some, if_pos (nI_le (Nat.le_refl _) (by omega))]
theorem r317_10 (h : Yd w X.cl a Q) (hc : CI Q H S r X) (hD : DM X.cl T Q.n (ds Q.n Q.E)) : lw (G_317_10 a T) 200000 (0, 0, X) = some (.inl (nI (dia Q.n Q.E), X)) := by
  have hn := hc.2.1.1.2.1
  obtain ⟨e, p, st, kn, ff, kf, h1, -, h3, ⟨-, f, h4, h5⟩, -⟩ := id h
  have e0 : nI (dia Q.n Q.E) = nI (rm Q.n Q.E Q.n) := by rw [rm_eq]; rfl
  rw [e0]
  refine lw_seq (fun i => (nI (rm Q.n Q.E i), nI i, X)) (n := Q.n) (fun i hi => ?_) ?_ (by omega)
  · unfold G_317_10
    dsimp only
    rw [yMany h1, Option.bind_some, if_neg (nI_ge hi (by omega)), r317_22 h hc hD hi (rm_le Q.n Q.E i), Option.bind_some]
    dsimp only
    rw [cPebbles hc hi, Option.bind_some]
    dsimp only
    rw [xq_l, yPebs h1, Option.bind_some, aI_ h4 hi (by omega), Option.bind_some, h5 i hi, if_pos rfl, nI_1]
    rfl
  · unfold G_317_10
    dsimp only
    rw [yMany h1, Option.bind_some, if_pos (nI_le (Nat.le_refl _) (by omega))]
/-- a row of six laid and written, nothing else -/
def R6 (X Z : Wd) (f : Nat → Int32) : Prop := (∀ b, b < X.top → Z.cl b = X.cl b) ∧ Z.cl X.top = some (.inl (0, 6, .inl f)) ∧ Sm X Z ∧ Co 1 6 X Z ∧ Z.top = X.top + 1
theorem R6.put {Z : Wd} {f : Nat → Int32} (h : R6 X Z f) {i : Nat} (hi : i < 6) (y : Int32) : ∃ Z', Z.sI X.top (nI i) y = some Z' ∧ R6 X Z' (upd f i y) := by
  obtain ⟨h1, h2, h3, h4, h5⟩ := h
  obtain ⟨Z', e, k⟩ := sI_ h2 hi (by decide) y
  refine ⟨Z', e, fun b hb => by rw [k.1, upm_n (by omega)]; exact h1 b hb, by rw [k.1]; exact upm_s, h3.tr k.sm, (h4.tr k.co).up (by omega) (by omega), k.2.2.2.2.2.2.2.2.2.1.trans h5⟩
theorem R6.yd {Z : Wd} {f : Nat → Int32} (h : R6 X Z f) (y : Yd w X.cl a Q) (hn : Q.n ≤ 6) : Yd w Z.cl a Q := y.ext (fun b c hb ho _ => ⟨by rw [h.1 b (cl_lt hb)]; exact hb, ho⟩) hn
theorem r317_165 (hc : CI Q H S r X) {x4 : Nat} {f : Nat → Int32} (hf : X.cl x4 = some (.inl (0, 6, .inl f))) (hk : ∀ k, k < 6 → f k = cnt Q k) : lw (G_317_165 a x4) 200000 (0, X) = some (.inl X) := by
  refine lw_seq (fun i => (nI i, X)) (n := 6) (fun i hi => ?_) ?_ (by omega)
  · unfold G_317_165
    dsimp only
    rw [if_neg (show ¬ 6 ≤ nI i from nI_ge (b := 6) hi (by omega)), cCount hc i hi, Option.bind_some]
    dsimp only
    rw [xq_l, aI_ hf hi (by decide), Option.bind_some, hk i hi, if_pos rfl, nI_1]
  · unfold G_317_165
    dsimp only
    rw [if_pos (show 6 ≤ nI 6 from nI_le (Nat.le_refl _) (by omega))]
theorem r317_226 (h : Yd w X.cl a Q) (hc : CI Q H S r X) {k s : Nat} (hk : k < Q.sc) (hs : YA w X.cl a s Q.n (Q.tg k) (Q.wt k) (Q.pr k)) : lw (G_317_226 a (nI k) s) 200000 (0, X) = some (.inl X) := by
  have hn := hc.2.1.1.2.1
  obtain ⟨e, p, st, kn, ff, kf, h1, -⟩ := id h
  obtain ⟨-, f, s1, s2, s3⟩ := hs
  refine lw_seq (fun i => (nI i, X)) (n := Q.n) (fun i hi => ?_) ?_ (by omega)
  · have q0 : F_115 X (nI k) (nI i) 0 = some (.inl (nI (Q.tg k)), X) := cStrategy hc hk hi 0 (by decide)
    have q1 : F_115 X (nI k) (nI i) 1 = some (.inl (nI (Q.wt k i)), X) := cStrategy hc hk hi 1 (by decide)
    have q2 : F_115 X (nI k) (nI i) 2 = some (.inl (pI (Q.pr k i)), X) := cStrategy hc hk hi 2 (by decide)
    have a0 : X.aI s 0 = some (nI (Q.tg k)) := by rw [← s2]; exact aI_ s1 (i := 0) (by decide) (by decide)
    have a1 : X.aI s (1 + nI i) = some (nI (Q.wt k i)) := by rw [z1, nI_add, aI_ s1 (by omega) (by decide), (s3 i hi).1]
    have a2 : X.aI s (7 + nI i) = some (pI (Q.pr k i)) := by rw [z7, nI_add, aI_ s1 (by omega) (by decide), (s3 i hi).2]
    unfold G_317_226
    dsimp only
    rw [yMany h1, Option.bind_some, if_neg (nI_ge hi (by omega)), q0, Option.bind_some]
    dsimp only
    rw [xq_l, a0, Option.bind_some, if_neg (fun z => z rfl), q1, Option.bind_some]
    dsimp only
    rw [xq_l, a1, Option.bind_some, if_neg (fun z => z rfl), q2, Option.bind_some]
    dsimp only
    rw [xq_l, a2, Option.bind_some, if_pos rfl, nI_1]
  · unfold G_317_226
    dsimp only
    rw [yMany h1, Option.bind_some, if_pos (nI_le (Nat.le_refl _) (by omega))]
theorem r317_197 (h : Yd w X.cl a Q) (hc : CI Q H S r X) : lw (G_317_197 a) 200000 (0, X) = some (.inl X) := by
  have hn := hc.2.1.1.2.1
  have hsc := hc.2.1.2.2.1.1
  obtain ⟨e, p, st, kn, ff, kf, h1, -, -, -, ⟨l, h5, h6, -, h8⟩, -⟩ := id h
  have rcs : X.rc st 10 = some () := by obtain ⟨_, _, q, _⟩ := h5; exact rc_ q
  refine lw_seq (fun i => (nI i, X)) (n := Q.sc) (fun i hi => ?_) ?_ (by omega)
  · obtain ⟨s, hs⟩ : ∃ s, l[i]? = some s := ⟨_, List.getElem?_eq_getElem (by omega)⟩
    have ya := h8 i s hs
    obtain ⟨-, f, s1, -⟩ := id ya
    unfold G_317_197
    dsimp only
    rw [yStrs h1, Option.bind_some, rcs, Option.bind_some, alSize h5, Option.bind_some, h6, if_neg (nI_ge hi (by omega)), Option.bind_some, rcs, Option.bind_some, alGet h5 hs (lt_cl s1), Option.bind_some, ra_ s1 (.inl rfl), Option.bind_some, r317_226 h hc hi ya, Option.bind_some, nI_1]
  · unfold G_317_197
    dsimp only
    rw [yStrs h1, Option.bind_some, rcs, Option.bind_some, alSize h5, Option.bind_some, h6, if_pos (nI_le (Nat.le_refl _) (by omega))]
/-- and so it is -/
theorem yIsAs (h : Yd w W.cl a Q) (hc : CI Q H S r W) (htop : W.top < 870000) : ∃ W' w', F_317 W a = some (1, W') ∧ Yd w' W'.cl a Q ∧ CI Q H S r W' ∧ Fz w w' a 8 48 W W' := by
  have hn := hc.2.1.1.2.1
  have hG := hc.2.1.1
  have hC := hc.2.1.2.1
  obtain ⟨X, e1, k1⟩ := yDist h hn (by omega)
  have k1' := k1.cong (D' := ds Q.n Q.E) (fun x y hx hy => (fw_ds hG hC hx hy).symm)
  obtain ⟨hD, r4, r5, r6⟩ := k1'
  have yX : Yd w X.cl a Q := h.ext (fun b c hb ho _ => ⟨by rw [r4 b (cl_lt hb)]; exact hb, ho⟩) hn
  have hXt : X.top ≤ W.top + 7 := by have q1 := r6.1; have q2 := r6.2.2; omega
  have hTX : W.top ≤ X.top := by obtain ⟨⟨er, q, -⟩, -⟩ := hD; have := cl_lt q; omega
  have cX := r5.ci hc
  have e10 := r317_10 yX cX hD
  obtain ⟨X1, e2, k2⟩ := nA_ (W := X) (t := 0) (n := 6) (by decide) (by omega)
  have p1 : R6 X X1 (fun _ => 0) := ⟨fun b hb => by rw [k2.1, if_neg (by omega)], by have q := k2.new 0; rw [Nat.add_zero] at q; exact q, k2.2.1, k2.co, k2.2.2.1⟩
  obtain ⟨X2, e3, p2⟩ := p1.put (i := 0) (by decide) (nI Q.n)
  obtain ⟨X3, e4, p3⟩ := p2.put (i := 1) (by decide) (nI (ye Q.E Q.n))
  obtain ⟨X4, e5, p4⟩ := p3.put (i := 2) (by decide) (nI (sm Q.pl Q.n))
  obtain ⟨X5, e6, p5⟩ := p4.put (i := 3) (by decide) Q.mc
  obtain ⟨X6, e7, p6⟩ := p5.put (i := 4) (by decide) (nI Q.sc)
  obtain ⟨X7, e8, p7⟩ := p6.put (i := 5) (by decide) (nI (dia Q.n Q.E))
  have y7 := p7.yd yX hn
  have c7 := p7.2.2.1.ci cX
  have ek : ∀ k, k < 6 → upd (upd (upd (upd (upd (upd (fun _ => 0) 0 (nI Q.n)) 1 (nI (ye Q.E Q.n))) 2 (nI (sm Q.pl Q.n))) 3 Q.mc) 4 (nI Q.sc)) 5 (nI (dia Q.n Q.E)) k = cnt Q k := by
    intro k hk
    match k, hk with
    | 0, _ => rfl
    | 1, _ => show nI (ye Q.E Q.n) = nI (ec Q.n Q.E); rw [ye_ec hG]
    | 2, _ => rfl
    | 3, _ => rfl
    | 4, _ => rfl
    | 5, _ => rfl
  have eA := r317_165 (a := a) c7 p7.2.1 ek
  have eB := r317_197 y7 c7
  have kq : Kq (fun _ => True) w (fr w a W.top) W.cl X7.cl a := fun b c hb ho _ => ⟨by rw [p7.1 b (by have := cl_lt hb; omega), r4 b (cl_lt hb)]; exact hb, (fr_o (cl_lt hb)).trans ho⟩
  refine ⟨X7, fr w a W.top, ?_, h.ext kq hn, c7, fun b hb => fr_o hb, fun b hb _ => by rw [p7.1 b (by omega), r4 b hb], r5.tr p7.2.2.1, (r6.tr p7.2.2.2.1).up (by decide) (by decide), by rw [p7.2.2.2.2]; omega⟩
  obtain ⟨e, p, st, kn, ff, kf, h1, -⟩ := id h
  have y1 := p1.yd yX hn
  have y2 := p2.yd yX hn
  have y3 := p3.yd yX hn
  have y4 := p4.yd yX hn
  have y5 := p5.yd yX hn
  have m1 : X1.gI a 7 0 = some (nI Q.n) := by obtain ⟨_, _, _, _, _, _, q, _⟩ := id y1; exact yMany q
  have rc2 : X2.rc a 7 = some () := by obtain ⟨_, _, _, _, _, _, q, _⟩ := id y2; exact rc_ q
  have rc3 : X3.rc a 7 = some () := by obtain ⟨_, _, _, _, _, _, q, _⟩ := id y3; exact rc_ q
  have m4 : X4.gI a 7 3 = some Q.mc := by obtain ⟨_, _, _, _, _, _, q, _⟩ := id y4; exact yMoves q
  obtain ⟨e5_, p5_, st5, kn5, ff5, kf5, q5, -, -, -, ⟨l, l5, l6, -⟩, -⟩ := id y5
  have s5 : X5.gR a 7 4 = some st5 := yStrs q5
  have rc5 : X5.rc st5 10 = some () := by obtain ⟨_, _, q, _⟩ := l5; exact rc_ q
  have z5' := alSize l5
  rw [l6] at z5'
  have e3 : X1.sI X.top 0 (nI Q.n) = some X2 := e3
  have e4 : X2.sI X.top 1 (nI (ye Q.E Q.n)) = some X3 := e4
  have e5 : X3.sI X.top 2 (nI (sm Q.pl Q.n)) = some X4 := e5
  have e6 : X4.sI X.top 3 Q.mc = some X5 := e6
  have e7 : X5.sI X.top 4 (nI Q.sc) = some X6 := e7
  have e8 : X6.sI X.top 5 (nI (dia Q.n Q.E)) = some X7 := e8
  have e2 : X.nA 0 6 = some (X.top, X1) := e2
  unfold F_317
  rw [rc_ h1, Option.bind_some, e1, Option.bind_some]
  dsimp only
  rw [e10, Option.bind_some]
  dsimp only
  rw [e2, Option.bind_some]
  dsimp only
  rw [m1, Option.bind_some, e3, Option.bind_some, rc2, Option.bind_some, yEdges y2 hn, Option.bind_some, e4, Option.bind_some, rc3, Option.bind_some, yAll y3 hn, Option.bind_some, e5, Option.bind_some, m4, Option.bind_some, e6, Option.bind_some, s5, Option.bind_some, rc5, Option.bind_some, z5', Option.bind_some, e7, Option.bind_some, e8, Option.bind_some, eA, Option.bind_some]
  dsimp only
  rw [eB, Option.bind_some]
end ISAS
