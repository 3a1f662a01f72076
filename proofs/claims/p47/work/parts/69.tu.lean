/-! ===== THE YARD: an edge turned, a move ===== -/
/-- the owner's places alone are written -/
def Fy (w : Nat → Nat) (a : Nat) (W W' : Wd) : Prop := (∀ b, ¬ w b = a → W'.cl b = W.cl b) ∧ Sm W W' ∧ Co 0 0 W W' ∧ W'.top = W.top
theorem Fy.tr {w : Nat → Nat} {a : Nat} {X Y Z : Wd} (h : Fy w a X Y) (k : Fy w a Y Z) : Fy w a X Z := ⟨fun b hb => (k.1 b hb).trans (h.1 b hb), h.2.1.tr k.2.1, (h.2.2.1.tr k.2.2.1).up (by decide) (by decide), k.2.2.2.trans h.2.2.2⟩
theorem Wr.fy {w : Nat → Nat} {a q : Nat} {c : AC} {W W' : Wd} (h : Wr W W' q c) (hw : w q = a) : Fy w a W W' := ⟨fun b hb => by rw [h.1, upm_n (fun z => hb (by rw [z]; exact hw))], h.sm, h.co, h.2.2.2.2.2.2.2.2.2.1⟩
theorem bI_fits (b : Bool) : bI b = 0 ∨ bI b = 1 := by cases b <;> decide
theorem kd1 {n : Nat} {x : AVc} : kd (.inl (1, n, x)) = 1 := by
  show (if 1 = 0 ∧ n = 13 then 13 else 1) = 1
  rw [if_neg (by omega)]
theorem kd0 {n : Nat} {x : AVc} (h : n ≤ 6) : kd (.inl (0, n, x)) = 0 := by
  show (if 0 = 0 ∧ n = 13 then 13 else 0) = 0
  rw [if_neg (by omega)]
theorem kd2 {n : Nat} {x : AVc} : kd (.inl (2, n, x)) = 2 := by
  show (if 2 = 0 ∧ n = 13 then 13 else 2) = 2
  rw [if_neg (by omega)]
def um (A : Nat → Nat → Bool) (u v : Nat) (b : Bool) : Nat → Nat → Bool := fun x y => if x = u ∧ y = v then b else A x y
theorem um_s {A : Nat → Nat → Bool} {u v : Nat} {b : Bool} : um A u v b u v = b := if_pos ⟨rfl, rfl⟩
theorem um_n {A : Nat → Nat → Bool} {u v x y : Nat} {b : Bool} (h : ¬ (x = u ∧ y = v)) : um A u v b x y = A x y := if_neg h
section TURN
variable {w : Nat → Nat} {W : Wd} {a e n : Nat} {A : Nat → Nat → Bool}
/-- one truth value of the matrix written -/
theorem YM.put (h : YM w W.cl a e n A) (hn : n ≤ 6) {u v : Nat} (hu : u < n) (hv : v < n) (b : Bool) : ∃ r f W', W.aR e (nI u) = some r ∧ W.cl r = some (.inl (1, n, .inl f)) ∧ w r = a ∧ W.sB r (nI v) (bI b) = some W' ∧ Wr W W' r (.inl (1, n, .inl (upd f v (bI b)))) ∧ YM w W'.cl a e n (um A u v b) ∧ W'.aR e (nI u) = some r := by
  obtain ⟨h1, r, er, h2, h3, h4⟩ := h
  obtain ⟨a1, a2, f, a3, a4⟩ := h3 u hu
  obtain ⟨W', e1, k⟩ := sB_ (y := bI b) a3 hv (by omega) (.inl ⟨rfl, bI_fits b⟩)
  have he : W'.cl e = some (.inl (6, n, .inr (.inr (.inr (.inr er))))) := by rw [k.1, upm_n (fun q => by subst q; rw [h2] at a3; cases a3)]; exact h2
  refine ⟨r u, f, W', aR_ h2 (by decide) hu (by omega) a1, a3, a2, e1, k, ⟨h1, r, er, he, fun x hx => ?_, h4⟩, aR_ he (by decide) hu (by omega) a1⟩
  obtain ⟨b1, b2, g, b3, b4⟩ := h3 x hx
  refine ⟨b1, b2, ?_⟩
  by_cases q : x = u
  · subst q
    refine ⟨_, by rw [k.1]; exact upm_s, fun o ho => ?_⟩
    by_cases q2 : o = v
    · subst q2; rw [pk_us, um_s]
    · rw [pk_un q2, um_n (fun z => q2 z.2)]; exact a4 o ho
  · refine ⟨g, by rw [k.1, upm_n (fun z => q (h4 x u hx hu z))]; exact b3, fun o ho => ?_⟩
    rw [um_n (fun z => q z.1)]
    exact b4 o ho
theorem YM.row (h : YM w W.cl a e n A) (hn : n ≤ 6) {u : Nat} (hu : u < n) : ∃ r f, W.aR e (nI u) = some r ∧ W.cl r = some (.inl (1, n, .inl f)) ∧ w r = a ∧ ∀ v, v < n → W.aB r (nI v) = some (bI (A u v)) := by
  obtain ⟨h1, r, er, h2, h3, h4⟩ := h
  obtain ⟨a1, a2, f, a3, a4⟩ := h3 u hu
  refine ⟨r u, f, aR_ h2 (by decide) hu (by omega) a1, a3, a2, fun v hv => ?_⟩
  rw [aB_ a3 (.inl rfl) hv (by omega), a4 v hv]
theorem YM.cong {m : Nat → Option AC} {A' : Nat → Nat → Bool} (h : YM w m a e n A) (k : ∀ x y, x < n → y < n → A' x y = A x y) : YM w m a e n A' := by
  obtain ⟨h1, r, er, h2, h3, h4⟩ := h
  refine ⟨h1, r, er, h2, fun v hv => ?_, h4⟩
  obtain ⟨a1, a2, f, a3, a4⟩ := h3 v hv
  exact ⟨a1, a2, f, a3, fun o ho => by rw [a4 o ho, k v o hv ho]⟩
end TURN
/-- the edge turned: laid where there was none, taken where there was one -/
def te (E u v : Nat) : Nat := if ad E u v then re E u v else ae E u v
theorem te_ad {n E u v x y : Nat} (hG : Gr n E) (hu : u < n) (hv : v < n) (hne : ¬ u = v) (hx : x < n) (hy : y < n) : ad (te E u v) x y = if x = v ∧ y = u then !ad E v u else if x = u ∧ y = v then !ad E u v else ad E x y := by
  have hn := hG.2.1
  have sym : ad E v u = ad E u v := by
    cases h1 : ad E u v with
    | true => exact (hG.2.2 u v (by omega) h1).2.2.2
    | false =>
      cases h2 : ad E v u with
      | false => rfl
      | true => rw [(hG.2.2 v u (by omega) h2).2.2.2] at h1; cases h1
  unfold te
  cases h1 : ad E u v with
  | true =>
    rw [if_pos rfl, re_ad (by omega) (by omega) (by omega), sym, h1]
    by_cases q1 : x = v ∧ y = u
    · rw [if_pos q1]
      have : ¬ (x = u ∧ y = v) := fun z => hne (z.1.symm.trans q1.1)
      simp [q1]
    · rw [if_neg q1]
      by_cases q2 : x = u ∧ y = v
      · rw [if_pos q2]; simp [q2]
      · rw [if_neg q2, decide_eq_false q1, decide_eq_false q2]; simp
  | false =>
    rw [if_neg (by decide), ae_ad (by omega) (by omega) (by omega), sym, h1]
    by_cases q1 : x = v ∧ y = u
    · rw [if_pos q1, decide_eq_true q1]; simp
    · rw [if_neg q1]
      by_cases q2 : x = u ∧ y = v
      · rw [if_pos q2, decide_eq_true q2]; simp
      · rw [if_neg q2, decide_eq_false q1, decide_eq_false q2]; simp
theorem te_gr {n E u v : Nat} (hG : Gr n E) (hu : u < n) (hv : v < n) (hne : ¬ u = v) : Gr n (te E u v) := by
  have hn := hG.2.1
  unfold te
  split
  · exact hG.re (by omega) (by omega)
  · exact hG.ae hu hv hne
section TURN2
variable {w : Nat → Nat} {W : Wd} {a : Nat} {Q : Ps}
theorem yTurn (h : Yd w W.cl a Q) (hG : Gr Q.n Q.E) {u v : Nat} (hu : u < Q.n) (hv : v < Q.n) (hne : ¬ u = v) : ∃ W', F_304 W a (nI u) (nI v) = some W' ∧ Yd w W'.cl a (Q.wE (te Q.E u v)) ∧ Fy w a W W' := by
  have hn := hG.2.1
  obtain ⟨e, p, st, kn, ff, kf, h1, h2, h3, h4, h5, h6⟩ := h
  obtain ⟨r1, f1, W1, b1, b2, b3, b4, b5, b6, b7⟩ := YM.put h3 hn hu hv (!ad Q.E u v)
  obtain ⟨r0, f0, c1, c2, c3, c4⟩ := YM.row h3 hn hu
  rw [b1] at c1
  cases c1
  have k1 := b5.kq (w := w) (a := a) b2
  have y1 : W1.cl a = some (yo Q.n e p Q.mc st kn kf ff) := (k1 a _ h1 h2 (show ¬ 27 = _ by rw [kd1]; decide)).1
  obtain ⟨r2, f2, W2, d1, d2, d3, d4, d5, d6, d7⟩ := YM.put b6 hn hv hu (!ad Q.E v u)
  obtain ⟨r0', f0', g1, g2, g3, g4⟩ := YM.row b6 hn hv
  rw [d1] at g1
  cases g1
  have g4u := g4 u hu
  rw [um_n (fun z => hne z.2)] at g4u
  have k2 := d5.kq (w := w) (a := a) d2
  have y2 : W2.cl a = some (yo Q.n e p Q.mc st kn kf ff) := (k2 a _ y1 h2 (show ¬ 27 = _ by rw [kd1]; decide)).1
  obtain ⟨W3, e3, k3⟩ := pv_ (v := .int (-1)) (i := 6) y2 ⟨show 6 < 8 by decide, rfl, rfl, nofun⟩
  have q3 := k3.kq (w := w) (a := a) y2
  have kk : Kq (fun k => ¬ k = 1 ∧ ¬ k = 27) w w W.cl W3.cl a := by
    refine Kq.tr (Kq.up k1 fun k hk => ?_) (Kq.tr (Kq.up k2 fun k hk => ?_) (Kq.up q3 fun k hk => hk.2))
    · rw [kd1]; exact hk.1
    · rw [kd1]; exact hk.1
  refine ⟨W3, ?_, ⟨e, p, st, kn, ff, -1, by rw [k3.1]; exact upm_s, h2, ?_, h4.ext kk (by decide) hn, h5.ext kk (by decide) (by decide) (by decide), ?_⟩, (b5.fy b3).tr ((d5.fy d3).tr (k3.fy h2))⟩
  · have j47 : ∀ t0, t0 = bI (!ad Q.E v u) → J_304_0_j47 W1 a t0 (nI u) r2 = some W3 := fun t0 ht => by
      subst ht
      unfold J_304_0_j47
      rw [d4, Option.bind_some, e3, Option.bind_some]
    have j23 : ∀ t0, t0 = bI (!ad Q.E u v) → J_304_0_j23 W a (nI u) (nI v) t0 (nI v) r1 = some W3 := fun t0 ht => by
      subst ht
      unfold J_304_0_j23
      rw [b4, Option.bind_some, yEdge y1, Option.bind_some, d1, Option.bind_some, Option.bind_some, d1, Option.bind_some, g4u, Option.bind_some]
      cases hq : ad Q.E v u with
      | true => rw [if_pos (by decide)]; exact j47 0 (by rw [hq]; rfl)
      | false => rw [if_neg (by decide)]; exact j47 1 (by rw [hq]; rfl)
    unfold F_304
    rw [yEdge h1, Option.bind_some, b1, Option.bind_some, Option.bind_some, b1, Option.bind_some, c4 v hv, Option.bind_some]
    cases hq : ad Q.E u v with
    | true => rw [if_pos (by decide)]; exact j23 0 (by rw [hq]; rfl)
    | false => rw [if_neg (by decide)]; exact j23 1 (by rw [hq]; rfl)
  · have m3 : YM w W3.cl a e Q.n (um (um (ad Q.E) u v (!ad Q.E u v)) v u (!ad Q.E v u)) := YM.ext d6 q3 (show ¬ 6 = 27 by decide) (show ¬ 1 = 27 by decide)
    exact YM.cong m3 fun x y hx hy => te_ad hG hu hv hne hx hy
  · obtain ⟨a1, a2, a3, kl, kc, fl, fc, a4, a5, a6, -⟩ := h6.ext kk (by decide) (by decide)
    exact ⟨a1, a2, a3, kl, kc, fl, fc, a4, a5, a6, .inl rfl⟩
/-- the pile at one vertex written -/
theorem YP.put {p n : Nat} {pl : Nat → Nat} (h : YP w W.cl a p n pl) (hn : n ≤ 6) {v : Nat} (hv : v < n) (k : Nat) : W.aI p (nI v) = some (nI (pl v)) ∧ ∃ f W', W.cl p = some (.inl (0, n, .inl f)) ∧ W.sI p (nI v) (nI k) = some W' ∧ Wr W W' p (.inl (0, n, .inl (upd f v (nI k)))) ∧ YP w W'.cl a p n (upl pl v k) := by
  obtain ⟨h1, f, h2, h3⟩ := h
  obtain ⟨W', e, q⟩ := sI_ h2 hv (by omega) (nI k)
  refine ⟨by rw [aI_ h2 hv (by omega), h3 v hv], f, W', h2, e, q, h1, _, by rw [q.1]; exact upm_s, fun x hx => ?_⟩
  unfold upl
  by_cases z : x = v
  · subst z; rw [pk_us, if_pos rfl]
  · rw [pk_un z, if_neg z]; exact h3 x hx
/-- other piles: all but the row of piles stays -/
theorem YK.pile {p kn ff n E : Nat} {kf : Int32} {W' : Wd} {c : AC} (h : YK w W.cl a p kn ff kf n E) (q : Wr W W' p c) {f : Nat → Int32} (hp : W.cl p = some (.inl (0, n, .inl f))) : YK w W'.cl a p kn ff kf n E := by
  obtain ⟨a1, a2, a3, kl, kc, fl, fc, a4, a5, a6⟩ := h
  exact ⟨a1, a2, a3, kl, kc, fl, fc, by rw [q.1, upm_n (fun z => by subst z; rw [hp] at a4; cases a4)]; exact a4, by rw [q.1, upm_n a3]; exact a5, a6⟩
theorem yPile (h : Yd w W.cl a Q) (hn : Q.n ≤ 6) {v : Nat} (hv : v < Q.n) (k : Nat) : ∃ p W', W.gR a 7 2 = some p ∧ W.aI p (nI v) = some (nI (Q.pl v)) ∧ W.sI p (nI v) (nI k) = some W' ∧ W'.gR a 7 2 = some p ∧ Yd w W'.cl a (Q.wm (upl Q.pl v k) Q.mc) ∧ Fy w a W W' := by
  obtain ⟨e, p, st, kn, ff, kf, h1, h2, h3, h4, h5, h6⟩ := h
  obtain ⟨b1, f, W', b2, b3, b4, b5⟩ := h4.put hn hv k
  have kk : Kq (fun k => ¬ k = 0) w w W.cl W'.cl a := Kq.up (b4.kq b2) fun k hk => by
    rw [kd0 hn]; exact hk
  have y1 := (kk a _ h1 h2 (show ¬ 27 = 0 by decide)).1
  exact ⟨p, W', yPebs h1, b1, b3, yPebs y1, ⟨e, p, st, kn, ff, kf, y1, h2, YM.ext h3 kk (by decide) (by decide), b5, h5.ext kk (by decide) (by decide) (by decide), h6.pile b4 b2⟩, b4.fy h4.1⟩
theorem yMove (h : Yd w W.cl a Q) (hn : Q.n ≤ 6) {u v : Nat} (hu : u < Q.n) (hv : v < Q.n) (hne : ¬ u = v) (h2p : 2 ≤ Q.pl u) (h9 : ∀ v, v < 6 → Q.pl v ≤ 999) : ∃ W', F_315 W a (nI u) (nI v) = some W' ∧ Yd w W'.cl a (Q.wm (pmv Q.pl u v) (Q.mc + 1)) ∧ Fy w a W W' := by
  have u9 := h9 u (by omega)
  have v9 := h9 v (by omega)
  obtain ⟨p, W1, e1, e2, e3, e4, y1, f1⟩ := yPile h hn hu (Q.pl u - 2)
  obtain ⟨p', W2, g1, g2, g3, g4, y2, f2⟩ := yPile y1 hn hv (Q.pl v + 1)
  rw [show (Q.wm (upl Q.pl u (Q.pl u - 2)) Q.mc).pl v = Q.pl v from if_neg (fun z => hne z.symm)] at g2
  rw [e4] at g1
  cases g1
  obtain ⟨e, q, st, kn, ff, kf, h1, h2, h3, h4, h5, h6⟩ := y2
  obtain ⟨W3, e5, k5⟩ := pv_ (v := .int (Q.mc + 1)) (i := 3) h1 ⟨show 3 < 8 by decide, rfl, rfl, nofun⟩
  have kk := k5.kq (w := w) (a := a) h1
  refine ⟨W3, ?_, ⟨e, q, st, kn, ff, kf, by rw [k5.1]; exact upm_s, h2, YM.ext h3 kk (show ¬ 6 = 27 by decide) (show ¬ 1 = 27 by decide), ?_, h5.ext kk (show ¬ 30 = 27 by decide) (show ¬ 5 = 27 by decide) (show ¬ 13 = 27 by decide), h6.ext kk (show ¬ 2 = 27 by decide) (show ¬ 0 = 27 by decide)⟩, f1.tr (f2.tr (k5.fy h2))⟩
  · unfold F_315
    rw [e1, Option.bind_some, e2, Option.bind_some, show (2 : Int32) = nI 2 from rfl, pk_sub h2p, e3, Option.bind_some, e4, Option.bind_some, g2, Option.bind_some, nI_1, g3, Option.bind_some, yMoves h1, Option.bind_some]
    rw [show (Ps.wm (Ps.wm Q (upl Q.pl u (Q.pl u - 2)) Q.mc) (upl (Ps.wm Q (upl Q.pl u (Q.pl u - 2)) Q.mc).pl v (Q.pl v + 1)) (Ps.wm Q (upl Q.pl u (Q.pl u - 2)) Q.mc).mc).mc = Q.mc from rfl, e5, Option.bind_some]
  · have q4 := h4.ext kk (show ¬ 0 = 27 by decide) hn
    obtain ⟨a1, f, a2, a3⟩ := q4
    refine ⟨a1, f, a2, fun x hx => ?_⟩
    rw [a3 x hx]
    congr 1
    show upl (upl Q.pl u (Q.pl u - 2)) v (Q.pl v + 1) x = pmv Q.pl u v x
    unfold upl pmv
    by_cases z : x = v
    · rw [if_pos z, if_pos z, if_neg (fun z => hne z.symm)]
    · rw [if_neg z, if_neg z]
end TURN2
