/-! ===== THE YARD'S TEXT: the whole ===== -/
/-- bytes of a text -/
def okl (l : List Nat) : Prop := ∀ x, x ∈ l → 0 < x ∧ x < 128
theorem okl_app {l m : List Nat} (h : okl l) (k : okl m) : okl (l ++ m) := fun x hx => by
  rw [List.mem_append] at hx
  rcases hx with z | z
  · exact h x z
  · exact k x z
theorem okl_nil : okl [] := fun x hx => by simp at hx
theorem okl_32 : okl [32] := fun x hx => by
  rw [List.mem_singleton] at hx
  subst hx
  decide
theorem okl_tx {k : Nat} (hk : k < 27) : okl (txl k) := fun x hx => by
  obtain ⟨t1, t2, t3, t4⟩ := txl_ok k hk
  obtain ⟨i, hi, rfl⟩ := List.getElem_of_mem hx
  have e : (txl k)[i] = (txl k).getD i 0 := by rw [List.getD_eq_getElem?_getD, List.getElem?_eq_getElem hi]; rfl
  rw [e]
  exact ⟨(t4 i hi).1, t3 i (by omega)⟩
theorem okl_dg {k : Nat} (hk : k < 100) : okl (dgt k) := fun x hx => by
  unfold dgt at hx
  split at hx
  · rw [List.mem_singleton] at hx
    omega
  · rw [List.mem_cons, List.mem_singleton] at hx
    omega
theorem okl_get {l : List Nat} (h : okl l) : (∀ i, l.getD i 0 < 128) ∧ ∀ i, i < l.length → 0 < l.getD i 0 := by
  have key : ∀ i, (i < l.length ∧ l.getD i 0 ∈ l) ∨ l.getD i 0 = 0 ∧ ¬ i < l.length := fun i => by
    by_cases q : i < l.length
    · left
      refine ⟨q, ?_⟩
      rw [List.getD_eq_getElem?_getD, List.getElem?_eq_getElem q]
      exact List.getElem_mem q
    · right
      refine ⟨?_, q⟩
      rw [List.getD_eq_getElem?_getD, List.getElem?_eq_none (by omega)]
      rfl
  refine ⟨fun i => ?_, fun i hi => ?_⟩
  · rcases key i with ⟨-, q⟩ | ⟨q, -⟩
    · exact (h _ q).2
    · rw [q]; decide
  · rcases key i with ⟨-, q⟩ | ⟨-, q⟩
    · exact (h _ q).1
    · exact absurd hi q
theorem okl_Es {E v : Nat} (hv : v < 100) : ∀ o, o < 100 → okl (xEs E v o)
  | 0, _ => okl_nil
  | o + 1, ho => by
    rw [xEs]
    refine okl_app (okl_Es hv o (by omega)) ?_
    split
    · exact okl_app (okl_tx (by decide)) (okl_app (okl_dg hv) (okl_app okl_32 (okl_dg (by omega))))
    · exact okl_nil
theorem okl_EA {E : Nat} : ∀ v, v < 100 → okl (xEA E v)
  | 0, _ => okl_nil
  | v + 1, hv => by
    rw [xEA]
    exact okl_app (okl_EA v (by omega)) (okl_Es (by omega) v (by omega))
theorem okl_PA {pl : Nat → Nat} (h8 : ∀ v, pl v ≤ 8) : ∀ v, v < 100 → okl (xPA pl v)
  | 0, _ => okl_nil
  | v + 1, hv => by
    have := h8 v
    rw [xPA]
    refine okl_app (okl_PA h8 v (by omega)) ?_
    split
    · exact okl_nil
    · exact okl_app (okl_tx (by decide)) (okl_app (okl_dg (by omega)) (okl_app okl_32 (okl_dg (by omega))))
theorem okl_Ws {wt : Nat → Nat} {pr : Nat → Option Nat} (hq : ∀ v q, pr v = some q → q < 6) (hw : ∀ v, wt v ≤ 64) : ∀ v, v < 100 → okl (xWs wt pr v)
  | 0, _ => okl_nil
  | v + 1, hv => by
    have := hw v
    rw [xWs]
    refine okl_app (okl_Ws hq hw v (by omega)) ?_
    cases h : pr v with
    | none => exact okl_nil
    | some q =>
      have := hq v q h
      exact okl_app okl_32 (okl_app (okl_dg (by omega)) (okl_app okl_32 (okl_app (okl_dg (by omega)) (okl_app okl_32 (okl_dg (by omega))))))
theorem okl_SA {Q : Ps} (hT : TP Q) : ∀ k, k ≤ Q.sc → okl (xSA Q k)
  | 0, _ => okl_nil
  | k + 1, hk => by
    have hn := hT.1.1.2.1
    have hs := hT.2.2.2.2 k (by omega)
    have htg := (hT.1.2.2.1.2 k (by omega)).1
    rw [xSA]
    exact okl_app (okl_SA hT k (by omega)) (okl_app (okl_tx (by decide)) (okl_app (okl_dg (by omega)) (okl_Ws (fun v q h => by have := (hs.2 v).2.1 q h; omega) (fun v => (hs.2 v).1) _ (by omega))))
theorem okl_T {Q : Ps} (hT : TP Q) : okl (xT Q) := by
  have hn := hT.1.1.2.1
  exact okl_app (okl_tx (by decide)) (okl_app (okl_dg (by omega)) (okl_app (okl_EA _ (by omega)) (okl_app (okl_PA hT.2.2.1 _ (by omega)) (okl_SA hT _ (Nat.le_refl _)))))
theorem xT_len {Q : Ps} (hT : TP Q) : (xT Q).length ≤ 390 := by
  have hn := hT.1.1.2.1
  have h3 := hT.2.2.2.1
  have l1 := xEA_len (E := Q.E) Q.n hn
  have l2 := xPA_len hT.2.2.1 Q.n hn
  have l3 := xSA_len hT Q.sc (Nat.le_refl _)
  have l4 := sm6 hn
  unfold xT
  simp only [List.length_append]
  rw [txl_len.1, dgt_len.2 (by omega)]
  omega
section TEXT2
variable {T0 sb : Nat} {V W : Wd} {l : List Nat} {w : Nat → Nat} {a : Nat} {Q : Ps}
theorem r310_148 (hW : Yd w W.cl a Q) (hT0 : T0 = W.top) (hTP : TP Q) (h0 : ∀ b, b < T0 → V.cl b = W.cl b) (h : SS T0 V.cl sb l) (hlen : l.length ≤ 215) {e p st kn ff : Nat} {kf : Int32} {lo : List Nat} {mc : Int32} {es it : Nat} (a1 : W.cl a = some (yo Q.n e p Q.mc st kn kf ff)) (al : AL w W.cl a st lo) (hlo : lo.length = Q.sc) (hya : ∀ k s, lo[k]? = some s → YA w W.cl a s Q.n (Q.tg k) (Q.wt k) (Q.pr k)) (hm : W.cl st = some (.inr (10, [.int mc, .ref es, .int (nI lo.length)]))) (hit : Wk V.cl it st 0 mc) (hiT : T0 ≤ it) (his : ¬ it = sb) (hT : T0 ≤ V.top) (ht : V.top < 840000) :
    ∃ V', lw (G_310_148 a sb it) 200000 V = some V' ∧ SS T0 V'.cl sb (l ++ xSA Q Q.sc) ∧ Gz T0 114 91428 V V' := by
  have hn := hTP.1.1.2.1
  have hy : YW T0 w a W Q := fun X hX => hW.ext (fun b c hb ho _ => ⟨by rw [hX b (by have := cl_lt hb; omega)]; exact hb, ho⟩) hn
  have main : ∃ V', lw (G_310_148 a sb it) 200000 V = some V' ∧ SS T0 V'.cl sb (l ++ xSA Q Q.sc) ∧ Gz T0 (38 * Q.sc) (30476 * Q.sc) V V' := by
    refine lw_for (n := Q.sc) (fun k X => SS T0 X.cl sb (l ++ xSA Q k) ∧ Wk X.cl it st k mc ∧ Gz T0 (38 * k) (30476 * k) V X) ?_ ?_ ⟨by rw [show xSA Q 0 = [] from rfl, List.append_nil]; exact h, hit, Gz.rf T0 V⟩ (by have := hTP.2.2.2.1; omega)
    · rintro k X hk ⟨hs, hw, hX⟩
      left
      have h3 := hTP.2.2.2.1
      have tX := hX.top
      have tX2 := hX.2.2.2
      have x0 : ∀ b, b < T0 → X.cl b = W.cl b := fun b hb => (hX.1 b hb).trans (h0 b hb)
      have kq : Kq (fun _ => True) w w W.cl X.cl a := fun b c hb ho _ => ⟨by rw [x0 b (by have := cl_lt hb; omega)]; exact hb, ho⟩
      have al' := al.ext kq trivial trivial
      have hm' : X.cl st = some (.inr (10, [.int mc, .ref es, .int (nI lo.length)])) := by rw [x0 st (by have := cl_lt hm; omega)]; exact hm
      obtain ⟨s, hsk⟩ : ∃ s, lo[k]? = some s := ⟨_, List.getElem?_eq_getElem (by omega)⟩
      have ya := hya k s hsk
      obtain ⟨ws, fs, s1, s2, s3⟩ := id ya
      have hsT : s < T0 := by have := cl_lt s1; omega
      have sX : X.cl s = some (.inl (0, 13, .inl fs)) := by rw [x0 s hsT]; exact s1
      have e343 := itHas al' hw (by omega)
      rw [if_neg (by omega)] at e343
      obtain ⟨X1, ci, e344, hw1, ci1, ci2, far1, sm1, co1, t1⟩ := itNext al' hm' hw hsk (lt_cl sX)
      have g1 : Gz T0 0 0 X X1 := ⟨fun b hb => far1 b (by omega), sm1, co1, Nat.le_of_eq t1.symm⟩
      have hs1 : SS T0 X1.cl sb (l ++ xSA Q k) := by
        obtain ⟨va, z, cap, f, u1, u2, u3, u4, u5⟩ := hs
        exact ⟨va, z, cap, f, u1, by rw [far1 sb (fun q => his q.symm)]; exact u2, u3, by rw [far1 va (fun q => by subst q; rw [ci1] at u4; cases u4; exact absurd ci2 (by rw [kd2]; decide))]; exact u4, u5⟩
      have x1 : ∀ b, b < T0 → X1.cl b = W.cl b := fun b hb => (far1 b (by omega)).trans (x0 b hb)
      have lS := xSA_len hTP k (by omega)
      obtain ⟨X2, e2, u2, a2⟩ := sbStr (l2 := txl 26) hs1 (a := am_SB + 10 + 2 * 26) (fun V' _ => tv_tx V' (by decide)) (by rw [List.length_append, txl_len.2.2.2]; omega) (by omega) (by omega)
      have p2 := a2.gz.top
      have q2 := a2.2.2.2.2
      have htg := (hTP.1.2.2.1.2 k hk).1
      obtain ⟨X3, e3, u3, a3⟩ := sbInt u2 (k := Q.tg k) (by omega) (by rw [List.length_append, List.length_append, txl_len.2.2.2]; omega) (by omega) (by omega)
      have p3 := a3.gz.top
      have q3 := a3.2.2.2.2
      have x3 : ∀ b, b < T0 → X3.cl b = W.cl b := fun b hb => (a3.1 b hb).trans ((a2.1 b hb).trans (x1 b hb))
      have dl := (dgt_len (k := Q.tg k)).1
      obtain ⟨X4, e4, u4, a4⟩ := r310_183 (it := it) hy hn x3 u3 ya hsT (hTP.2.2.2.2 k hk) (by rw [List.length_append, List.length_append, List.length_append, txl_len.2.2.2]; omega) (by omega) (by omega)
      have a24 := a2.tr (a3.tr a4)
      refine ⟨X4, ?_, ?_, ?_, ?_⟩
      · obtain ⟨lr, gi⟩ := id hw
        have r1 : X1.ra s 0 = some () := ra_ (by rw [x1 s hsT]; exact s1) (.inl rfl)
        have r2 : X2.aI s 0 = some (nI (Q.tg k)) := by
          rw [← s2]
          exact aI_ (i := 0) (by rw [a2.1 s hsT, x1 s hsT]; exact s1) (by decide) (by decide)
        unfold G_310_148
        dsimp only
        rw [rc_ gi, Option.bind_some, e343, Option.bind_some, if_neg (by decide), Option.bind_some, e344, Option.bind_some]
        dsimp only
        rw [r1, Option.bind_some, hs1.rc.1, Option.bind_some, e2, Option.bind_some]
        dsimp only
        rw [r2, Option.bind_some, u2.rc.1, Option.bind_some, e3, Option.bind_some]
        dsimp only
        rw [e4, Option.bind_some]
      · rw [xSA]
        rw [List.append_assoc, List.append_assoc, List.append_assoc] at u4
        exact u4
      · obtain ⟨lr, gi⟩ := hw1
        exact ⟨lr, a24.2.1 it _ gi his (show ¬ 31 = 2 by decide)⟩
      · exact (hX.tr (g1.tr a24.gz)).up (by omega) (by omega)
    · rintro X ⟨hs, hw, hX⟩
      have x0 : ∀ b, b < T0 → X.cl b = W.cl b := fun b hb => (hX.1 b hb).trans (h0 b hb)
      have kq : Kq (fun _ => True) w w W.cl X.cl a := fun b c hb ho _ => ⟨by rw [x0 b (by have := cl_lt hb; omega)]; exact hb, ho⟩
      have al' := al.ext kq trivial trivial
      have e343 := itHas al' hw (by omega)
      rw [if_pos hlo.symm] at e343
      obtain ⟨lr, gi⟩ := id hw
      refine ⟨X, ?_, hs, hX⟩
      unfold G_310_148
      dsimp only
      rw [rc_ gi, Option.bind_some, e343, Option.bind_some, if_pos rfl]
  obtain ⟨V', e1, s, k⟩ := main
  have := hTP.2.2.2.1
  exact ⟨V', e1, s, k.up (by omega) (by omega)⟩
/-- the yard's text -/
theorem yText (hW : Yd w W.cl a Q) (hTP : TP Q) (htop : W.top < 800000) : ∃ V t, F_310 W a = some (t, V) ∧ TV V t (xT Q) ∧ Gz W.top 310 240000 W V := by
  have sbv : am_SB = 1000000 := rfl
  have hn := hTP.1.1.2.1
  have h3 := hTP.2.2.2.1
  have hy : YW W.top w a W Q := fun X hX => hW.ext (fun b c hb ho _ => ⟨by rw [hX b (cl_lt hb)]; exact hb, ho⟩) hn
  obtain ⟨W1, e1, k1⟩ := nO_ (W := W) (ci := 9) (by decide) (by omega)
  have c1 := k1.new 0
  rw [Nat.add_zero] at c1
  have c1 : W1.cl W.top = some (.inr (9, am_fd 9)) := c1
  have t1 : W1.top = W.top + 1 := k1.2.2.1
  have g1 : Gz W.top 1 4 W W1 := ⟨fun b hb => by rw [k1.1, if_neg (by omega)], k1.2.1, k1.co, by omega⟩
  obtain ⟨W2, e2, k2⟩ := nO_ (W := W1) (ci := 9) (by decide) (by omega)
  have c2 := k2.new 0
  rw [Nat.add_zero] at c2
  have c2 : W2.cl W1.top = some (.inr (9, am_fd 9)) := c2
  have c1' := k2.old c1
  have t2 : W2.top = W1.top + 1 := k2.2.2.1
  have g2 : Gz W.top 1 4 W1 W2 := ⟨fun b hb => by rw [k2.1, if_neg (by omega)], k2.2.1, k2.co, by omega⟩
  have hne : ¬ W.top = W1.top := by omega
  -- the first builder: vertices and their number
  obtain ⟨W3, e3, s3, a3⟩ := sbNew (T0 := W.top) c2 (by omega) (by omega) (by omega)
  have p3 := a3.gz.top
  have q3 := a3.2.2.2.2
  obtain ⟨W4, e4, s4, a4⟩ := sbStr (l2 := txl 23) s3 (a := am_SB + 10 + 2 * 23) (fun V' _ => tv_tx V' (by decide)) (by rw [txl_len.1]; show 0 + 9 ≤ 400; decide) (by omega) (by omega)
  have p4 := a4.gz.top
  have q4 := a4.2.2.2.2
  have g34 := (g1.tr (g2.tr (a3.gz.tr a4.gz)))
  obtain ⟨m4, -⟩ := yMany' (hy W4 g34.1)
  obtain ⟨W5, e5, s5, a5⟩ := sbInt s4 (k := Q.n) (by omega) (by rw [List.nil_append, txl_len.1]; decide) (by omega) (by omega)
  have p5 := a5.gz.top
  have q5 := a5.2.2.2.2
  rw [List.nil_append] at s5
  have dl := (dgt_len (k := Q.n)).1
  have ok5 : okl (txl 23 ++ dgt Q.n) := okl_app (okl_tx (by decide)) (okl_dg (by omega))
  obtain ⟨o1, o2⟩ := okl_get ok5
  have l5 : (txl 23 ++ dgt Q.n).length ≤ 11 := by rw [List.length_append, txl_len.1]; omega
  obtain ⟨W6, e6, tv6, old6, g6⟩ := sbOut s5 o1 o2 (by omega) (by omega) (by omega)
  have p6 := g6.top
  have q6 := g6.2.2.2
  have c1'' : W6.cl W.top = some (.inr (9, am_fd 9)) := old6 _ _ (a5.2.1 _ _ (a4.2.1 _ _ (a3.2.1 _ _ c1' hne (show ¬ 29 = 2 by decide)) hne (show ¬ 29 = 2 by decide)) hne (show ¬ 29 = 2 by decide))
  -- the second
  obtain ⟨W7, e7, s7, a7⟩ := sbOf (T0 := W.top) (a := W5.top) (l := txl 23 ++ dgt Q.n) c1'' (Nat.le_refl _) (by omega) (by omega) (fun V' hV => tv6 V' fun b d hb hT => hV b d hb (by omega))
  have p7 := a7.gz.top
  have q7 := a7.2.2.2.2
  have g7 := g34.tr (a5.gz.tr (g6.tr a7.gz))
  obtain ⟨W8, e8, s8, a8⟩ := r310_32 hy hn g7.1 s7 (by omega) (by omega) (by omega)
  have p8 := a8.gz.top
  have q8 := a8.2.2.2.2
  have g8 := g7.tr a8.gz
  have lE := xEA_len (E := Q.E) Q.n hn
  have s15 := sm6 hn
  obtain ⟨W9, e9, s9, a9⟩ := r310_92 hy hn hTP.2.2.1 g8.1 s8 (by rw [List.length_append]; omega) (by omega) (by omega)
  have p9 := a9.gz.top
  have q9 := a9.2.2.2.2
  have g9 := g8.tr a9.gz
  have lP := xPA_len hTP.2.2.1 Q.n hn
  -- the strategies
  obtain ⟨e, p, st, kn, ff, kf, w1, w2, w3, w4, ⟨lo, w5, w6, w7, w8⟩, w9⟩ := id hW
  obtain ⟨mc, es, m1, m2, m3, m4'⟩ := id w5
  have st9 : W9.cl st = some (.inr (10, [.int mc, .ref es, .int (nI lo.length)])) := by rw [g9.1 st (cl_lt m1)]; exact m1
  have a9' : W9.cl a = some (yo Q.n e p Q.mc st kn kf ff) := by rw [g9.1 a (cl_lt w1)]; exact w1
  obtain ⟨W10, e10, hwk, far10, sm10, co10, t10⟩ := itNew st9 (by omega)
  have g10 : Gz W.top 1 4 W9 W10 := ⟨fun b hb => far10 b (by omega), sm10, co10, by omega⟩
  have s10 : SS W.top W10.cl W.top (txl 23 ++ dgt Q.n ++ xEA Q.E Q.n ++ xPA Q.pl Q.n) := by
    obtain ⟨va, z, cap, f, u1, u2, u3, u4, u5⟩ := s9
    exact ⟨va, z, cap, f, u1, by rw [far10 _ (cl_lt u2)]; exact u2, u3, by rw [far10 _ (cl_lt u4)]; exact u4, u5⟩
  have hs0 : W.top < W9.top := by
    obtain ⟨va, z, cap, f, u1, u2, u3, u4, u5⟩ := s9
    exact cl_lt u2
  obtain ⟨W11, e11, s11, g11⟩ := r310_148 hW rfl hTP (g9.tr g10).1 s10 (by rw [List.length_append, List.length_append]; omega) w1 w5 w6 w8 m1 hwk (by omega) (by omega) (by omega) (by omega)
  have p11 := g11.top
  have q11 := g11.2.2.2
  have eT : txl 23 ++ dgt Q.n ++ xEA Q.E Q.n ++ xPA Q.pl Q.n ++ xSA Q Q.sc = xT Q := by
    unfold xT
    rw [List.append_assoc, List.append_assoc, List.append_assoc]
  rw [eT] at s11
  obtain ⟨r1, r2⟩ := okl_get (okl_T hTP)
  have rl := xT_len hTP
  obtain ⟨W12, e12, tv12, -, g12⟩ := sbOut s11 r1 r2 (by omega) (by omega) (by omega)
  refine ⟨W12, W11.top, ?_, tv12 W12 fun _ _ h _ => h, (g9.tr (g10.tr (g11.tr g12))).up (by decide) (by decide)⟩
  have rst : W9.rc st 10 = some () := rc_ st9
  unfold F_310
  rw [e1, Option.bind_some]
  dsimp only
  rw [e2, Option.bind_some]
  dsimp only
  rw [rp_ (by omega), Option.bind_some, e3, Option.bind_some, s3.rc.1, Option.bind_some, e4, Option.bind_some]
  dsimp only
  rw [m4, Option.bind_some, s4.rc.1, Option.bind_some, e5, Option.bind_some]
  dsimp only
  rw [s5.rc.1, Option.bind_some, e6, Option.bind_some]
  dsimp only
  rw [rp_ (by omega), Option.bind_some, e7, Option.bind_some, e8, Option.bind_some, e9, Option.bind_some, yStrs a9', Option.bind_some, rst, Option.bind_some, e10, Option.bind_some]
  dsimp only
  rw [e11, Option.bind_some, s11.rc.1, Option.bind_some, e12, Option.bind_some]
  dsimp only
  rw [rp_ (by omega), Option.bind_some]
end TEXT2
