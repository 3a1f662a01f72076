/-! ===== THE YARD'S NEXT MOVE: one try ===== -/
/-- the yard, looking at t where b -/
def YB (b : Bool) (w : Nat → Nat) (m : Nat → Option AC) (a : Nat) (Q : Ps) (t : Nat) : Prop := (b = true → Yt w m a Q t) ∧ Yd w m a Q
/-- k tries since W0 -/
def YI (W0 : Wd) (w0 : Nat → Nat) (a t : Nat) (Q : Ps) (k : Nat) (V : Wd) (w : Nat → Nat) : Prop := ∃ b, YB b w V.cl a Q t ∧ Fz w0 w a (if b then 8 + k else k) (if b then 32810 + 6 * k else 6 * k) W0 V
theorem pm2 {p : Nat → Nat} {u o : Nat} (hne : ¬ u = o) : upl (upl p u (p u - 2)) o (p o + 1) = pmv p u o := funext fun x => by
  unfold upl pmv
  by_cases z : x = o
  · rw [if_pos z, if_pos z, if_neg (fun z => hne z.symm)]
  · rw [if_neg z, if_neg z]
theorem pm4 {p : Nat → Nat} {u o : Nat} (hne : ¬ u = o) : upl (upl (pmv p u o) u (p u)) o (p o) = p := funext fun x => by
  unfold upl
  by_cases z : x = o
  · rw [if_pos z, z]
  · rw [if_neg z]
    by_cases y : x = u
    · rw [if_pos y, y]
    · rw [if_neg y, pmv_at hne, if_neg z, if_neg y]
theorem wm_wm {Q : Ps} {p q : Nat → Nat} {c d : Int32} : (Q.wm p c).wm q d = Q.wm q d := rfl
theorem wm_self (Q : Ps) : Q.wm Q.pl Q.mc = Q := rfl
section NX
variable {w : Nat → Nat} {W : Wd} {a t : Nat} {Q : Ps} {b : Bool}
theorem yPileB (h : YB b w W.cl a Q t) (hn : Q.n ≤ 6) (ht : t < Q.n) {v : Nat} (hv : v < Q.n) (k : Nat) : ∃ p W', W.gR a 7 2 = some p ∧ W.aI p (nI v) = some (nI (Q.pl v)) ∧ W.sI p (nI v) (nI k) = some W' ∧ W'.gR a 7 2 = some p ∧ YB b w W'.cl a (Q.wm (upl Q.pl v k) Q.mc) t ∧ Fy w a W W' := by
  cases b with
  | false =>
    obtain ⟨p, W', e1, e2, e3, e4, y, f⟩ := yPile h.2 hn hv k
    exact ⟨p, W', e1, e2, e3, e4, ⟨(fun z => absurd z (by decide)), y⟩, f⟩
  | true =>
    obtain ⟨e, p, st, kn, ff, h1, h2, h3, h4, h5, h6, h7, h8, kl, kc, fc, h9, h10, h11, h12⟩ := h.1 rfl
    obtain ⟨b1, f, W', b2, b3, b4, b5⟩ := h4.put hn hv k
    have kk : Kq (fun k => ¬ k = 0) w w W.cl W'.cl a := Kq.up (b4.kq b2) fun k hk => by
      rw [kd0 hn]; exact hk
    have y1 := (kk a _ h1 h2 (show ¬ 27 = 0 by decide)).1
    have yt : Yt w W'.cl a (Q.wm (upl Q.pl v k) Q.mc) t := ⟨e, p, st, kn, ff, y1, h2, YM.ext h3 kk (show ¬ 6 = 0 by decide) (show ¬ 1 = 0 by decide), b5, h5.ext kk (show ¬ 30 = 0 by decide) (show ¬ 5 = 0 by decide) (show ¬ 13 = 0 by decide), h6, h7, h8, kl, kc, fc, (kk kn _ h9 h6 (by rw [kd2]; decide)).1, by rw [b4.1, upm_n h8]; exact h10, h11, h12⟩
    exact ⟨p, W', yPebs h1, b1, b3, yPebs y1, ⟨fun _ => yt, yt.yd hn ht⟩, b4.fy h4.1⟩
theorem yMoveB (h : YB b w W.cl a Q t) (hn : Q.n ≤ 6) (ht : t < Q.n) {u o : Nat} (hu : u < Q.n) (ho : o < Q.n) (hne : ¬ u = o) : ∃ p W1 W2, W.gR a 7 2 = some p ∧ W.aI p (nI u) = some (nI (Q.pl u)) ∧ W.sI p (nI u) (nI (Q.pl u - 2)) = some W1 ∧ W1.gR a 7 2 = some p ∧ W1.aI p (nI o) = some (nI (Q.pl o)) ∧ W1.sI p (nI o) (nI (Q.pl o + 1)) = some W2 ∧ YB b w W2.cl a (Q.wm (pmv Q.pl u o) Q.mc) t ∧ Fy w a W W2 := by
  obtain ⟨p, W1, e1, e2, e3, e4, y1, f1⟩ := yPileB h hn ht hu (Q.pl u - 2)
  obtain ⟨p', W2, g1, g2, g3, g4, y2, f2⟩ := yPileB y1 hn ht ho (Q.pl o + 1)
  rw [e4] at g1
  cases g1
  rw [show (Q.wm (upl Q.pl u (Q.pl u - 2)) Q.mc).pl o = Q.pl o from if_neg (fun z => hne z.symm)] at g2
  refine ⟨p, W1, W2, e1, e2, e3, e4, g2, g3, ?_, f1.tr f2⟩
  rw [← pm2 hne]
  exact y2
theorem yBackB {u o : Nat} (h : YB b w W.cl a (Q.wm (pmv Q.pl u o) Q.mc) t) (hn : Q.n ≤ 6) (ht : t < Q.n) (hu : u < Q.n) (ho : o < Q.n) (hne : ¬ u = o) : ∃ p W1 W2, W.gR a 7 2 = some p ∧ W.aI p (nI u) = some (nI (Q.pl u - 2)) ∧ W.sI p (nI u) (nI (Q.pl u)) = some W1 ∧ W1.gR a 7 2 = some p ∧ W1.aI p (nI o) = some (nI (Q.pl o + 1)) ∧ W1.sI p (nI o) (nI (Q.pl o)) = some W2 ∧ YB b w W2.cl a Q t ∧ Fy w a W W2 := by
  obtain ⟨p, W1, e1, e2, e3, e4, y1, f1⟩ := yPileB (Q := Q.wm (pmv Q.pl u o) Q.mc) h hn ht hu (Q.pl u)
  obtain ⟨p', W2, g1, g2, g3, g4, y2, f2⟩ := yPileB y1 hn ht ho (Q.pl o)
  rw [e4] at g1
  cases g1
  have q1 : (Q.wm (pmv Q.pl u o) Q.mc).pl u = Q.pl u - 2 := by
    show pmv Q.pl u o u = _
    rw [pmv_at hne, if_neg hne, if_pos rfl]
  have q2 : ((Q.wm (pmv Q.pl u o) Q.mc).wm (upl (Q.wm (pmv Q.pl u o) Q.mc).pl u (Q.pl u)) (Q.wm (pmv Q.pl u o) Q.mc).mc).pl o = Q.pl o + 1 := by
    show (if o = u then Q.pl u else pmv Q.pl u o o) = _
    rw [if_neg (fun z => hne z.symm), pmv_at hne, if_pos rfl]
  rw [q1] at e2
  rw [q2] at g2
  refine ⟨p, W1, W2, e1, e2, e3, e4, g2, g3, ?_, f1.tr f2⟩
  have y3 : YB b w W2.cl a (Q.wm (upl (upl (pmv Q.pl u o) u (Q.pl u)) o (Q.pl o)) Q.mc) t := y2
  rw [pm4 hne] at y3
  exact y3
theorem yReachB (h : YB b w W.cl a Q t) (hG : Gr Q.n Q.E) (hC : Cn Q.n Q.E) (ht : t < Q.n) (hp : ∀ v, v < Q.n → Q.pl v ≤ 5000) (htop : W.top < 860000) : ∃ W' w', F_313 W a (nI t) = some (bI (!hold Q.n Q.E t Q.pl), W') ∧ YB true w' W'.cl a Q t ∧ Fz w w' a (if b then 1 else 9) (if b then 6 else 32816) W W' := by
  cases b with
  | false =>
    obtain ⟨W', w', e, y, f⟩ := yReach h.2 hG hC ht hp htop
    exact ⟨W', w', e, ⟨fun _ => y, y.yd hG.2.1 ht⟩, f⟩
  | true =>
    obtain ⟨W', w', e, y, f⟩ := yReachT (h.1 rfl) hG hC ht hp (by omega)
    exact ⟨W', w', e, ⟨fun _ => y, y.yd hG.2.1 ht⟩, f⟩
end NX
