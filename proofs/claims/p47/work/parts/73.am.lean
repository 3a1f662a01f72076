/-! ===== THE YARD'S AIM: what is known, of which target ===== -/
/-- the yard looks at t -/
def Yt (w : Nat → Nat) (m : Nat → Option AC) (a : Nat) (Q : Ps) (t : Nat) : Prop := ∃ e p st kn ff, m a = some (yo Q.n e p Q.mc st kn (nI t) ff) ∧ w a = a ∧ YE w m a e Q.n Q.E ∧ YP w m a p Q.n Q.pl ∧ YS w m a st Q.n Q.sc Q.tg Q.wt Q.pr ∧ w kn = a ∧ w ff = a ∧ ¬ ff = p ∧ ∃ kl kc fc, m kn = some (.inl (2, kl, .inl kc)) ∧ m ff = some (.inl (0, Q.n, .inl fc)) ∧ (∀ v, v < Q.n → fc v = nI (ds Q.n Q.E t v)) ∧ KV Q.n Q.E t kl kc
theorem Yt.yd {w : Nat → Nat} {m : Nat → Option AC} {a t : Nat} {Q : Ps} (h : Yt w m a Q t) (hn : Q.n ≤ 6) (ht : t < Q.n) : Yd w m a Q := by
  obtain ⟨e, p, st, kn, ff, h1, h2, h3, h4, h5, h6, h7, h8, kl, kc, fc, h9, h10, h11, h12⟩ := h
  exact ⟨e, p, st, kn, ff, nI t, h1, h2, h3, h4, h5, h6, h7, h8, kl, kc, Q.n, fc, h9, h10, hn, .inr ⟨t, ht, rfl, rfl, h11, h12⟩⟩
/-- of what was there, only the owner's places are written -/
def Fz (w w' : Nat → Nat) (a c k : Nat) (W W' : Wd) : Prop := (∀ b, b < W.top → w' b = w b) ∧ (∀ b, b < W.top → ¬ w b = a → W'.cl b = W.cl b) ∧ Sm W W' ∧ Co c k W W' ∧ W.top ≤ W'.top
theorem Fz.rf (w : Nat → Nat) (a : Nat) (W : Wd) : Fz w w a 0 0 W W := ⟨fun _ _ => rfl, fun _ _ _ => rfl, Sm.rf W, Co.rf W, Nat.le_refl _⟩
theorem Fz.tr {u v w : Nat → Nat} {a c k d j : Nat} {X Y Z : Wd} (h : Fz u v a c k X Y) (g : Fz v w a d j Y Z) : Fz u w a (c + d) (k + j) X Z := by
  obtain ⟨h1, h2, h3, h4, h5⟩ := h
  obtain ⟨g1, g2, g3, g4, g5⟩ := g
  exact ⟨fun b hb => (g1 b (by omega)).trans (h1 b hb), fun b hb hne => (g2 b (by omega) (by rw [h1 b hb]; exact hne)).trans (h2 b hb hne), h3.tr g3, h4.tr g4, by omega⟩
theorem Fz.up {w w' : Nat → Nat} {a c k d j : Nat} {X Y : Wd} (h : Fz w w' a c k X Y) (h1 : c ≤ d) (h2 : k ≤ j) : Fz w w' a d j X Y := ⟨h.1, h.2.1, h.2.2.1, h.2.2.2.1.up h1 h2, h.2.2.2.2⟩
theorem Fy.fz {w : Nat → Nat} {a : Nat} {W W' : Wd} (h : Fy w a W W') : Fz w w a 0 0 W W' := ⟨fun _ _ => rfl, fun b _ hne => h.1 b hne, h.2.1, h.2.2.1, Nat.le_of_eq h.2.2.2.symm⟩
/-- another's places stay -/
theorem Fz.kq {w w' : Nat → Nat} {a b c k : Nat} {W W' : Wd} (h : Fz w w' a c k W W') (hne : ¬ b = a) : Kq (fun _ => True) w w' W.cl W'.cl b := fun x y hx ho _ => ⟨by rw [h.2.1 x (cl_lt hx) (by rw [ho]; exact hne)]; exact hx, (h.1 x (cl_lt hx)).trans ho⟩
/-- fresh places are the owner's -/
def fr (w : Nat → Nat) (a T : Nat) : Nat → Nat := fun b => if b < T then w b else a
theorem fr_o {w : Nat → Nat} {a T b : Nat} (h : b < T) : fr w a T b = w b := if_pos h
theorem fr_n {w : Nat → Nat} {a T b : Nat} (h : T ≤ b) : fr w a T b = a := if_neg (by omega)
theorem am_ir {x y : Nat} (h : x < 1000000) : ¬ Value.ref x = Value.ref (am_SB + y) := fun z => by
  have e : am_SB = 1000000 := rfl
  injection z with z
  have q : x = am_SB + y := z
  omega
section AIM
variable {w : Nat → Nat} {W : Wd} {a : Nat} {Q : Ps}
theorem r312_33 {x1 : Int32} {r n : Nat} {f : Nat → Int32} {g : Nat → Nat} (h : W.cl r = some (.inl (0, n, .inl f))) (hf : ∀ v, v < n → f v = nI (g v)) (hn : n ≤ 6) : lw (G_312_33 W a x1 r (nI n)) 200000 (0, 0) = some (nI (sm g n)) := by
  refine lw_seq (fun i => (nI (sm g i), nI i)) (n := n) (fun i hi => ?_) ?_ (by omega)
  · unfold G_312_33
    dsimp only
    rw [if_neg (nI_ge hi (by omega)), aI_ h hi (by omega), Option.bind_some, hf i hi, nI_add, nI_1]
    rfl
  · unfold G_312_33
    dsimp only
    rw [if_pos (nI_le (Nat.le_refl _) (by omega))]
theorem yAim (h : Yd w W.cl a Q) (hG : Gr Q.n Q.E) (hC : Cn Q.n Q.E) {t : Nat} (ht : t < Q.n) (htop : W.top < 870000) : ∃ W' w', F_312 W a (nI t) = some W' ∧ Yt w' W'.cl a Q t ∧ Fz w w' a 8 32810 W W' := by
  have hn := hG.2.1
  have sb : am_SB = 1000000 := rfl
  obtain ⟨e, p, st, kn, ff, kf, h1, h2, h3, h4, h5, h6⟩ := id h
  by_cases hk : kf = nI t
  · refine ⟨W, w, ?_, ?_, (Fz.rf w a W).up (by decide) (by decide)⟩
    · unfold F_312
      rw [yFor h1, Option.bind_some, if_neg (fun z => z hk)]
    · obtain ⟨b1, b2, b3, kl, kc, fl, fc, b4, b5, b6, b7⟩ := h6
      rcases b7 with z | ⟨t', ht', q1, rfl, q3, q4⟩
      · rw [hk] at z
        have := congrArg Int32.toInt z
        rw [(nI_cl (n := t) (by omega)).2, show (-1 : Int32).toInt = -1 by decide] at this
        omega
      · have e0 : t' = t := by
          have := congrArg Int32.toInt (q1.symm.trans hk)
          rw [(nI_cl (n := t) (by omega)).2, (nI_cl (n := t') (by omega)).2] at this
          omega
        subst e0
        exact ⟨e, p, st, kn, ff, by rw [← hk]; exact h1, h2, h3, h4, h5, b1, b2, b3, kl, kc, fc, b4, b5, q3, q4⟩
  · obtain ⟨X, e1, k1⟩ := yDist h hn (by omega)
    have k1' := k1.cong (D' := ds Q.n Q.E) (fun x y hx hy => (fw_ds hG hC hx hy).symm)
    have row := k1'.1.row hn ht
    obtain ⟨⟨⟨er, r1, r2⟩, r3⟩, r4, r5, r6⟩ := k1'
    obtain ⟨f, f1, f2⟩ := r3 t ht
    have htX : W.top + 1 + t < X.top := cl_lt f1
    have hXt : X.top ≤ W.top + 7 := by have q1 := r6.1; have q2 := r6.2.2; omega
    have haT := cl_lt h1
    have kq0 : Kq (fun _ => True) w (fr w a W.top) W.cl X.cl a := fun b c hb ho _ => ⟨by rw [r4 b (cl_lt hb)]; exact hb, (fr_o (cl_lt hb)).trans ho⟩
    have x1 : X.cl a = some (yo Q.n e p Q.mc st kn kf ff) := (kq0 a _ h1 h2 trivial).1
    have wa : fr w a W.top a = a := (fr_o haT).trans h2
    obtain ⟨X1, e2, k2⟩ := pv_ (v := .ref (W.top + 1 + t)) (i := 7) x1 ⟨show 7 < 8 by decide, rfl, rfl, am_ir (by omega)⟩
    have x2 : X1.cl a = some (yo Q.n e p Q.mc st kn kf (W.top + 1 + t)) := by rw [k2.1]; exact upm_s
    have f3 : X1.cl (W.top + 1 + t) = some (.inl (0, Q.n, .inl f)) := by rw [k2.1, upm_n (by omega)]; exact f1
    have t1 : X1.top = X.top := k2.2.2.2.2.2.2.2.2.2.1
    have h15 := (ds_15 hG hC ht).1
    have hkl : 2 ^ sm (ds Q.n Q.E t) Q.n ≤ 32768 := by have := Nat.pow_le_pow_right (show 0 < 2 by decide) h15; omega
    obtain ⟨X2, e3, k3⟩ := nA_ (W := X1) (t := 2) (n := 2 ^ sm (ds Q.n Q.E t) Q.n) (by omega) (by omega)
    have x3 := k3.old x2
    have f4 := k3.old f3
    have n3 := k3.new 0
    rw [Nat.add_zero] at n3
    obtain ⟨X3, e4, k4⟩ := pv_ (v := .ref X1.top) (i := 5) x3 ⟨show 5 < 8 by decide, rfl, rfl, am_ir (by omega)⟩
    have x4 : X3.cl a = some (yo Q.n e p Q.mc st X1.top kf (W.top + 1 + t)) := by rw [k4.1]; exact upm_s
    obtain ⟨X4, e5, k5⟩ := pv_ (v := .int (nI t)) (i := 6) x4 ⟨show 6 < 8 by decide, rfl, rfl, nofun⟩
    have x5 : X4.cl a = some (yo Q.n e p Q.mc st X1.top (nI t) (W.top + 1 + t)) := by rw [k5.1]; exact upm_s
    have kk : Kq (fun k => ¬ k = 27) w (fr w a W.top) W.cl X4.cl a := Kq.tr (Kq.up kq0 fun _ _ => trivial) (Kq.tr (Kq.up (k2.kq x1) fun k hk => hk) (Kq.tr (Nw.kq k3) (Kq.tr (Kq.up (k4.kq x3) fun k hk => hk) (Kq.up (k5.kq x4) fun k hk => hk))))
    have hpT : p < W.top := by obtain ⟨_, fp, hp, _⟩ := h4; exact cl_lt hp
    refine ⟨X4, fr w a W.top, ?_, ⟨e, p, st, X1.top, W.top + 1 + t, x5, wa, YM.ext h3 kk (show ¬ 6 = 27 by decide) (show ¬ 1 = 27 by decide), h4.ext kk (show ¬ 0 = 27 by decide) hn, h5.ext kk (show ¬ 30 = 27 by decide) (show ¬ 5 = 27 by decide) (show ¬ 13 = 27 by decide), fr_n (by omega), fr_n (by omega), by omega, 2 ^ sm (ds Q.n Q.E t) Q.n, fun _ => 0, f, ?_, ?_, f2, rfl, fun c _ => .inl rfl⟩, fun b hb => fr_o hb, fun b hb hne => ?_, ?_, ?_, ?_⟩
    · unfold F_312
      rw [yFor h1, Option.bind_some, if_pos hk, rc_ h1, Option.bind_some, e1, Option.bind_some]
      dsimp only
      rw [row, Option.bind_some, e2, Option.bind_some, yFar x2, Option.bind_some, ln_ f3 (by decide), Option.bind_some, r312_33 f3 f2 hn, Option.bind_some, z1, shl_n 1 (by omega), Nat.one_shiftLeft, e3, Option.bind_some]
      dsimp only
      rw [e4, Option.bind_some, e5, Option.bind_some]
    · rw [k5.1, upm_n (by omega), k4.1, upm_n (by omega)]
      exact n3
    · rw [k5.1, upm_n (by omega), k4.1, upm_n (by omega)]
      exact f4
    · have hba : ¬ b = a := fun z => hne (by rw [z]; exact h2)
      rw [k5.1, upm_n hba, k4.1, upm_n hba, k3.1, if_neg (by omega), k2.1, upm_n hba]
      exact r4 b hb
    · exact r5.tr (k2.sm.tr (k3.2.1.tr (k4.sm.tr k5.sm)))
    · exact (r6.tr (k2.co.tr (k3.co.tr (k4.co.tr k5.co)))).up (by show 7 + (0 + (1 + (0 + 0))) ≤ 8; decide) (by omega)
    · have q3 := k3.2.2.1
      have q4 : X3.top = X2.top := k4.2.2.2.2.2.2.2.2.2.1
      have q5 : X4.top = X3.top := k5.2.2.2.2.2.2.2.2.2.1
      rw [q5, q4, q3, t1]
      omega
end AIM
