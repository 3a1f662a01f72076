/-! ===== A YARD COPIED: the whole ===== -/
section COPY4
variable {w : Nat → Nat} {W : Wd} {a o : Nat} {Q : Ps}
theorem yCopy (h : W.cl a = some (.inr (7, am_fd 7))) (hw : w a = a) (ho : Yd w W.cl o Q) (hne : ¬ o = a) (h1 : 1 ≤ Q.n) (hn : Q.n ≤ 6) (hsc : Q.sc ≤ 6) (htop : W.top < 850000) :
    ∃ W' w', F_303 W a o = some W' ∧ Yd w' W'.cl a Q ∧ Fz w w' a 24 193 W W' := by
  have sb : am_SB = 1000000 := rfl
  have haT := cl_lt h
  have ha9 : a < am_SB := lt_cl h
  obtain ⟨W1, e1, y1, f1, g1⟩ := yMake (w := w) (n := Q.n) h hw h1 hn (by omega)
  generalize hw1 : fr w a W.top = w1 at *
  have ho1 : Yd w1 W1.cl o Q := ho.ext (f1.kq hne) hn
  obtain ⟨eo, po, sto, kno, ffo, kfo, o1, o2, o3, o4, ⟨lo, o5, o6, o7, o8⟩, o9⟩ := id ho1
  obtain ⟨e, p, st, kn, ff, kf, a1, a2, a3, a4, ⟨l, a5, a6, a7, a8⟩, a9⟩ := id y1
  have hkf : kf = -1 := by
    rw [yFor a1] at g1
    exact Option.some.inj g1
  subst hkf
  obtain ⟨eo0, po0, sto0, kno0, ffo0, kfo0, oo1, -⟩ := id ho
  have htop1 : W1.top ≤ W.top + 11 := by have q1 := f1.2.2.2.1.1; have q2 := f1.2.2.2.1.2.2; omega
  -- the edges
  have a3' : YM w1 W1.cl a e Q.n (fun _ _ => false) := a3.cong fun x y _ _ => (ad_0 x y).symm
  obtain ⟨W2, e2, y2, f2, k2⟩ := r303_10 o1 o3 a1 a3' a2 o2 hne hn
  have kk2 : Kq (fun k => ¬ k = 1) w1 w1 W1.cl W2.cl a := k2
  have ko2 := f2.kq (b := o) hne
  have c1 : W2.cl a = some (yo Q.n e p 0 st kn (-1) ff) := (kk2 a _ a1 a2 (show ¬ 27 = 1 by decide)).1
  have c4 : YP w1 W2.cl a p Q.n (fun _ => 0) := a4.ext kk2 (show ¬ 0 = 1 by decide) hn
  have c5 : AL w1 W2.cl a st l := a5.ext kk2 (show ¬ 30 = 1 by decide) (show ¬ 5 = 1 by decide)
  have c9 : YK w1 W2.cl a p kn ff (-1) Q.n Q.E := by
    obtain ⟨q1, q2, q3, kl, kc, fl, fc, q4, q5, q6, -⟩ := a9.ext kk2 (show ¬ 2 = 1 by decide) (show ¬ 0 = 1 by decide)
    exact ⟨q1, q2, q3, kl, kc, fl, fc, q4, q5, q6, .inl rfl⟩
  have d1 := (ko2 o _ o1 o2 trivial).1
  have d4 := o4.ext ko2 trivial hn
  -- the piles
  obtain ⟨p1, fo, p2, p3⟩ := id d4
  obtain ⟨p4, fa, p5, p6⟩ := id c4
  have hpp : ¬ p = po := fun z => hne (by rw [← p1, ← z, p4])
  obtain ⟨W3, e3, k3⟩ := cp_ (x := 0) (y := 0) (z := Q.n) p2 p5 (.inl rfl) (by omega) (by omega) (by omega) (by omega)
  have kk3 : Kq (fun k => ¬ k = 0) w1 w1 W2.cl W3.cl a := Kq.up (k3.kq p5) fun k hk => by rw [kd0 hn]; exact hk
  have f3 : Fy w1 a W2 W3 := k3.fy p4
  have b1 : W3.cl a = some (yo Q.n e p 0 st kn (-1) ff) := (kk3 a _ c1 a2 (show ¬ 27 = 0 by decide)).1
  have b4 : YP w1 W3.cl a p Q.n Q.pl := ⟨p4, _, by rw [k3.1]; exact upm_s, fun v hv => by rw [cpy_in hv, p3 v hv]⟩
  have b5 : AL w1 W3.cl a st l := c5.ext kk3 (show ¬ 30 = 0 by decide) (show ¬ 5 = 0 by decide)
  have b9 : YK w1 W3.cl a p kn ff (-1) Q.n Q.E := c9.pile k3 p5
  have ko3 := f3.kq (b := o) hne
  have d1' := (ko3 o _ d1 o2 trivial).1
  -- the moves
  obtain ⟨W4, e4, k4⟩ := pv_ (v := .int Q.mc) (i := 3) b1 ⟨show 3 < 8 by decide, rfl, rfl, nofun⟩
  have kk4 := k4.kq (w := w1) (a := a) b1
  have f4 : Fy w1 a W3 W4 := k4.fy a2
  have ko4 := f4.kq (b := o) hne
  have x1 : W4.cl a = some (yo Q.n e p Q.mc st kn (-1) ff) := by rw [k4.1]; exact upm_s
  have x3 : YE w1 W4.cl a e Q.n Q.E := YM.ext (YM.ext y2 kk3 (show ¬ 6 = 0 by decide) (show ¬ 1 = 0 by decide)) kk4 (show ¬ 6 = 27 by decide) (show ¬ 1 = 27 by decide)
  have x4 : YP w1 W4.cl a p Q.n Q.pl := b4.ext kk4 (show ¬ 0 = 27 by decide) hn
  have x5 : AL w1 W4.cl a st l := b5.ext kk4 (show ¬ 30 = 27 by decide) (show ¬ 5 = 27 by decide)
  have x9 : YK w1 W4.cl a p kn ff (-1) Q.n Q.E := b9.ext kk4 (show ¬ 2 = 27 by decide) (show ¬ 0 = 27 by decide)
  have hl : l = [] := by
    cases l with
    | nil => rfl
    | cons x l => exact absurd a6 (by show ¬ l.length + 1 = 0; omega)
  subst hl
  have yd4 : Yd w1 W4.cl a (wsc Q 0) := ⟨e, p, st, kn, ff, -1, x1, a2, x3, x4, ⟨[], x5, rfl, List.nodup_nil, fun k s hs => by simp at hs⟩, x9⟩
  -- the other's list
  have f24 : Fy w1 a W1 W4 := f2.tr (f3.tr f4)
  have ko := f24.kq (b := o) hne
  have do1 := (ko o _ o1 o2 trivial).1
  have dal := o5.ext ko trivial trivial
  have dya : ∀ k s, lo[k]? = some s → YA w1 W4.cl o s Q.n (Q.tg k) (Q.wt k) (Q.pr k) := fun k s hs => (o8 k s hs).ext ko trivial
  obtain ⟨mco, eso, l1, l2, l3, l4⟩ := id dal
  have t4 : W4.top = W1.top := f24.2.2.2
  obtain ⟨W5, e5, hwk, far5, sm5, co5, t5⟩ := itNew l1 (show W4.top < 880000 by omega)
  have kq5 : ∀ b, Kq (fun _ => True) w1 (fr w1 a W4.top) W4.cl W5.cl b := fun b x c hx hb _ => ⟨by rw [far5 x (cl_lt hx)]; exact hx, (fr_o (cl_lt hx)).trans hb⟩
  obtain ⟨W6, w6, e6, y6, f6⟩ := r303_78 (o := o) (lo := lo) hn hsc (yd4.ext (kq5 a) hn) hne (dal.ext (kq5 o) trivial trivial) o6 ((kq5 o sto _ l1 l2 trivial).1) (fun k s hs => (dya k s hs).ext (kq5 o) trivial) hwk (fr_n (Nat.le_refl _)) (by omega)
  refine ⟨W6, w6, ?_, y6, ?_⟩
  · have g1 : W.gI o 7 0 = some (nI Q.n) := yMany oo1
    have g2 : W2.gR o 7 2 = some po := yPebs d1
    have g3 : W2.gR a 7 2 = some p := yPebs c1
    have g4 : W2.gI a 7 0 = some (nI Q.n) := yMany c1
    have e3' : W2.cp po 0 p 0 (nI Q.n) = some W3 := e3
    have g5 : W3.gI o 7 3 = some Q.mc := yMoves d1'
    have g6 : W4.gR o 7 4 = some sto := yStrs do1
    have e2' : lw (G_303_10 a o) 200000 (0, W1) = some W2 := e2
    unfold F_303
    rw [g1, Option.bind_some, rp_ ha9, Option.bind_some, e1, Option.bind_some, e2', Option.bind_some, g2, Option.bind_some, g3, Option.bind_some, g4, Option.bind_some, e3', Option.bind_some, g5, Option.bind_some, e4, Option.bind_some, g6, Option.bind_some, rc_ l1, Option.bind_some, e5, Option.bind_some]
    dsimp only
    rw [e6, Option.bind_some]
  · have f5 : Fz w1 (fr w1 a W4.top) a 1 4 W4 W5 := ⟨fun b hb => fr_o hb, fun b hb _ => far5 b hb, sm5, co5, by omega⟩
    exact (f1.tr (f24.fz.tr (f5.tr f6))).up (by decide) (by decide)
/-- a yard laid and made a copy of another -/
theorem yDup (ho : Yd w W.cl o Q) (h1 : 1 ≤ Q.n) (hn : Q.n ≤ 6) (hsc : Q.sc ≤ 6) (htop : W.top < 840000) :
    ∃ W1 W' w', W.nO 7 = some (W.top, W1) ∧ F_303 W1 W.top o = some W' ∧ Yd w' W'.cl W.top Q ∧ Fz w w' W.top 25 201 W W' := by
  obtain ⟨eo, po, sto, kno, ffo, kfo, o1, o2, -⟩ := id ho
  have hoT := cl_lt o1
  obtain ⟨W1, e1, s1, t1, f1⟩ := yNew (w := w) (W := W) (by omega)
  obtain ⟨W2, w2, e2, y2, f2⟩ := yCopy (o := o) s1 (fr_n (Nat.le_refl _)) (ho.ext (f1.kq (by omega)) hn) (by omega) h1 hn hsc (by omega)
  exact ⟨W1, W2, w2, e1, e2, y2, (f1.tr f2).up (by decide) (by decide)⟩
end COPY4
