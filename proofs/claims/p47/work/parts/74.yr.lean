/-! ===== THE YARD REACHES: a copy of the pile, searched ===== -/
section YR
variable {w : Nat → Nat} {W : Wd} {a : Nat} {Q : Ps}
theorem yAimT {t : Nat} (h : Yt w W.cl a Q t) : F_312 W a (nI t) = some W := by
  obtain ⟨e, p, st, kn, ff, h1, -⟩ := h
  unfold F_312
  rw [yFor h1, Option.bind_some, if_neg (fun z => z rfl)]
/-- what follows the aim -/
def r313 (B3 : Wd) (x0 : Nat) (x1 : Int32) : Option (Int32 × Wd) :=
  (B3.gR x0 7 2).bind fun v4 =>
  (B3.nC 0 v4).bind fun (a6, B7) =>
  (B7.ra a6 0).bind fun _ =>
  (B7.gR x0 7 7).bind fun v10 =>
  (B7.rc x0 7).bind fun _ =>
  (F_311 64 B7 x0 a6 v10 x1).bind fun (v14, B15) =>
  (if v14 = 0 ∨ v14 = 1 then some () else none).bind fun _ =>
  some (v14, B15)
theorem yTail (hG : Gr Q.n Q.E) (hC : Cn Q.n Q.E) {t : Nat} (ht : t < Q.n) (h : Yt w W.cl a Q t) (hp : ∀ v, v < Q.n → Q.pl v ≤ 5000) (htop : W.top < 880000) :
    ∃ W' w', r313 W a (nI t) = some (bI (!hold Q.n Q.E t Q.pl), W') ∧ Yt w' W'.cl a Q t ∧ Fz w w' a 1 6 W W' := by
  have hn := hG.2.1
  obtain ⟨e, p, st, kn, ff, h1, h2, h3, h4, h5, h6, h7, h8, kl, kc, fc, h9, h10, h11, h12⟩ := h
  obtain ⟨hpw, f, p1, p2⟩ := id h4
  obtain ⟨X, e1, k1⟩ := nC_ p1 (by omega)
  have n1 := k1.new 0
  rw [Nat.add_zero] at n1
  have n1 : X.cl W.top = some (.inl (0, Q.n, .inl f)) := n1
  have t1 : X.top = W.top + 1 := k1.2.2.1
  have kq0 : Kq (fun _ => True) w (fr w a W.top) W.cl X.cl a := fun b c hb ho _ => ⟨k1.old hb, (fr_o (cl_lt hb)).trans ho⟩
  have haT := cl_lt h1
  have hfT := cl_lt h10
  have hkT := cl_lt h9
  have rx : RX (fr w a W.top) X a W.top Q.n Q.E t e kn ff := ⟨⟨p, Q.mc, st, nI t, k1.old h1⟩, YM.ext h3 kq0 trivial trivial, ⟨fc, k1.old h10, h11⟩, by omega, ⟨f, n1⟩, ⟨kl, kc, k1.old h9⟩, hG, hC, ht⟩
  have ri : RI X W.top Q.n Q.E t kn Q.pl X := ⟨⟨f, n1, p2⟩, ⟨kl, kc, k1.old h9, h12⟩, fun _ _ _ => rfl, Sm.rf X, Co.rf X, rfl⟩
  obtain ⟨W', e2, r2⟩ := r311 (x3 := nI t) rx hp ri
  obtain ⟨-, ⟨kl2, kc2, q1, q2⟩, q3, q4, q5, q6⟩ := r2
  have old : ∀ b, b < W.top → ¬ b = kn → W'.cl b = W.cl b := fun b hb hne => by
    rw [q3 b (by omega) hne, k1.1, if_neg (by omega)]
  have kk : Kq (fun k => ¬ k = 2) w (fr w a W.top) W.cl W'.cl a := fun b c hb ho hk => by
    refine ⟨?_, (fr_o (cl_lt hb)).trans ho⟩
    rw [old b (cl_lt hb) (fun z => by subst z; rw [h9] at hb; cases hb; exact hk kd2)]
    exact hb
  refine ⟨W', fr w a W.top, ?_, ⟨e, p, st, kn, ff, (kk a _ h1 h2 (show ¬ 27 = 2 by decide)).1, (fr_o haT).trans h2, YM.ext h3 kk (show ¬ 6 = 2 by decide) (show ¬ 1 = 2 by decide), h4.ext kk (show ¬ 0 = 2 by decide) hn, h5.ext kk (show ¬ 30 = 2 by decide) (show ¬ 5 = 2 by decide) (show ¬ 13 = 2 by decide), (fr_o hkT).trans h6, (fr_o hfT).trans h7, h8, kl2, kc2, fc, q1, (kk ff _ h10 h7 (by rw [kd0 hn]; decide)).1, h11, q2⟩, fun b hb => fr_o hb, fun b hb hne => old b hb (fun z => hne (by rw [z]; exact h6)), k1.2.1.tr q4, (k1.co.tr q5).up (by show 1 + 0 ≤ 1; decide) (by omega), by omega⟩
  unfold r313
  rw [yPebs h1, Option.bind_some, e1, Option.bind_some]
  dsimp only
  rw [ra_ n1 (.inl rfl), Option.bind_some, yFar (k1.old h1), Option.bind_some, rc_ (k1.old h1), Option.bind_some, e2, Option.bind_some]
  dsimp only
  rw [if_pos (bI_or _), Option.bind_some]
/-- reaches, the first time -/
theorem yReach (h : Yd w W.cl a Q) (hG : Gr Q.n Q.E) (hC : Cn Q.n Q.E) {t : Nat} (ht : t < Q.n) (hp : ∀ v, v < Q.n → Q.pl v ≤ 5000) (htop : W.top < 860000) :
    ∃ W' w', F_313 W a (nI t) = some (bI (!hold Q.n Q.E t Q.pl), W') ∧ Yt w' W'.cl a Q t ∧ Fz w w' a 9 32816 W W' := by
  obtain ⟨X, w1, e1, y1, z1⟩ := yAim h hG hC ht (by omega)
  have hX : X.top ≤ W.top + 8 := by
    have q1 := z1.2.2.2.1.1
    have q2 := z1.2.2.2.1.2.2
    omega
  obtain ⟨Y, w2, e2, y2, z2⟩ := yTail hG hC ht y1 hp (by omega)
  refine ⟨Y, w2, ?_, y2, z1.tr z2⟩
  obtain ⟨e, p, st, kn, ff, kf, h1, -⟩ := h
  unfold F_313
  rw [rc_ h1, Option.bind_some, e1, Option.bind_some]
  exact e2
/-- and when the yard looks at the target already -/
theorem yReachT {t : Nat} (h : Yt w W.cl a Q t) (hG : Gr Q.n Q.E) (hC : Cn Q.n Q.E) (ht : t < Q.n) (hp : ∀ v, v < Q.n → Q.pl v ≤ 5000) (htop : W.top < 880000) :
    ∃ W' w', F_313 W a (nI t) = some (bI (!hold Q.n Q.E t Q.pl), W') ∧ Yt w' W'.cl a Q t ∧ Fz w w' a 1 6 W W' := by
  obtain ⟨Y, w2, e2, y2, z2⟩ := yTail hG hC ht h hp htop
  refine ⟨Y, w2, ?_, y2, z2⟩
  have e1 := yAimT h
  obtain ⟨e, p, st, kn, ff, h1, -⟩ := h
  unfold F_313
  rw [rc_ h1, Option.bind_some, e1, Option.bind_some]
  exact e2
end YR
