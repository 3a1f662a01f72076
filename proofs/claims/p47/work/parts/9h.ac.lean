/-! ===== A DRAWN CALL: strategies; all calls ===== -/
section RES4
variable {w : Nat → Nat} {W : Wd} {g y a : Nat} {Q : Ps} {H : List Ps} {S : Option Ps} {r : Int32}
theorem r385_627 {c : Nat} {X V : Wd} {f : Nat → Int32} (h : WC X V c f) : ∃ V', lw (G_385_627 g c) 200000 (7, V) = some V' ∧ WC X V' c (fun j => if 7 ≤ j ∧ j < 13 then -1 else f j) := by
  refine lw_for (n := 6) (fun i s => ∃ V, s = (nI (7 + i), V) ∧ WC X V c (fun j => if 7 ≤ j ∧ j < 7 + i then -1 else f j)) ?_ ?_ ⟨V, rfl, h.cong (funext fun j => (if_neg (by omega)).symm)⟩ (by omega)
  · rintro i s hi ⟨V, rfl, h⟩
    left
    obtain ⟨V', e, h'⟩ := h.put (i := 7 + i) (by omega) (-1)
    refine ⟨(nI (7 + (i + 1)), V'), ?_, V', rfl, h'.cong (funext fun j => ?_)⟩
    · unfold G_385_627
      dsimp only
      rw [if_neg (show ¬ 13 ≤ nI (7 + i) from nI_ge (b := 13) (by omega) (by omega)), e, Option.bind_some, nI_1]
      rfl
    · rw [upd_f]
      by_cases q : j = 7 + i
      · rw [if_pos q, if_pos (by omega)]
      · rw [if_neg q]
        by_cases q2 : 7 ≤ j ∧ j < 7 + i
        · rw [if_pos q2, if_pos (by omega)]
        · rw [if_neg q2, if_neg (by omega)]
  · rintro s ⟨V, rfl, h⟩
    refine ⟨V, ?_, h⟩
    unfold G_385_627
    dsimp only
    rw [if_pos (show 13 ≤ nI (7 + 6) from nI_le (Nat.le_refl 13) (by omega))]
theorem ySize {V : Wd} {w1 : Nat → Nat} {R : Ps} (h : Yd w1 V.cl g R) : ∃ st, V.gR g 7 4 = some st ∧ V.rc st 10 = some () ∧ F_349 V st = some (nI R.sc) := by
  obtain ⟨e, p, st, kn, ff, kf, h1, -, -, -, ⟨l, h5, h6, -⟩, -⟩ := h
  refine ⟨st, yStrs h1, by obtain ⟨_, _, q, _⟩ := h5; exact rc_ q, ?_⟩
  rw [alSize h5, h6]
theorem t580 (P : PRE w W g y a Q H S r) {v : Nat} (hv : v ≤ Q.n) : Res w W g y Q H S (J_385_0_j580 W g y (nI v)) (fun W1 => J_386_0_j202 W1 (nI v)) := by
  obtain ⟨p1, p2, p3, p4, p5, p6, p7, p8, p9⟩ := id P
  have hG := p8.2.1.1
  have hn := hG.2.1
  have h6 := p8.2.1.2.2.1.1
  obtain ⟨m1, m2⟩ := yMany' p1
  obtain ⟨st, s1, s2, s3⟩ := ySize p1
  have cal : ∀ V : Wd, ∀ q, F_376 V (nI v) = some q → J_386_0_j202 V (nI v) = some q := fun V q e => by
    unfold J_386_0_j202
    rw [e, Option.bind_some]
  by_cases hvn : v = Q.n
  · refine res_e P (due := 3294967295) (j := 2) ?_ (cIndex1 p8 (x := nI v) (by rw [hvn]; exact isv_n (by omega)) 0).2.2.2 (fun W2 e => cal W _ ?_) (fun V => (cod V).1)
    · unfold J_385_0_j580
      rw [m1, Option.bind_some, if_neg (fun z => z (by rw [hvn]))]
    · unfold F_376
      rw [e, Option.bind_some]
      rfl
  · have hvl : v < Q.n := by omega
    have hvI : ¬ nI v = nI Q.n := by rw [nI_eq (by omega) (by omega)]; exact hvn
    have hc : ∀ V, CI Q H S r V → V.top < 900000 → _ := fun V c ht => cNew c ht hvl
    by_cases hs6 : Q.sc = 6
    · refine res_r P (X := W) (w1 := w) (k := 7) (G := fun X => F_90 X (nI v)) ((Fz.rf w g W).up (by decide) (by decide)) (fun X' q rc => ?_) (fun X' c ht => ?_) (fun X' W2 q => cal X' _ ?_)
      · unfold J_385_0_j580
        rw [m1, Option.bind_some, if_pos hvI, s1, Option.bind_some, s2, Option.bind_some, s3, Option.bind_some, if_neg (fun z => z (by rw [hs6]; rfl)), rc, Option.bind_some, q, Option.bind_some]
      · have k := hc X' c (by omega)
        rw [if_pos hs6] at k
        exact k
      · unfold F_376
        rw [q, Option.bind_some]
        rfl
    · obtain ⟨X, e2, k2⟩ := nA_ (W := W) (t := 0) (n := 13) (by decide) (by omega)
      have n2 := k2.new 0
      rw [Nat.add_zero] at n2
      have n2 : X.cl W.top = some (.inl (0, 13, .inl (fun _ => 0))) := n2
      have w0 : WC X X W.top (fun _ => 0) := ⟨fun _ _ => rfl, n2, Sm.rf X, Co.rf X, rfl⟩
      obtain ⟨V1, e3, c1⟩ := w0.put (i := 0) (by decide) (nI v)
      obtain ⟨V2, e4, c2⟩ := r385_627 (g := g) c1
      have keep : ∀ b c, W.cl b = some c → V2.cl b = some c := fun b c hb => by
        have hlt := cl_lt hb
        rw [c2.1 b (by omega), k2.1, if_neg (by omega)]
        exact hb
      have kq : Kq (fun _ => True) w (fr w g W.top) W.cl V2.cl g := fun b c hb ho _ => ⟨keep b c hb, (fr_o (cl_lt hb)).trans ho⟩
      obtain ⟨R, hR⟩ : ∃ R, R = Q.wS Q.sc (otg Q.sc Q.tg v) (owt Q.sc Q.wt) (opr Q.sc Q.pr) := ⟨_, rfl⟩
      have y2 : Yd (fr w g W.top) V2.cl g R := by
        subst hR
        exact (p1.ext kq hn).cong rfl rfl (fun _ _ => rfl) rfl rfl fun i hi => ⟨if_neg (show ¬ i = Q.sc by omega), fun u _ => ⟨if_neg (show ¬ i = Q.sc by omega), if_neg (show ¬ i = Q.sc by omega)⟩⟩
      have t2 : V2.top = W.top + 1 := c2.2.2.2.2.trans k2.2.2.1
      obtain ⟨st', V3, w3, b1, b2, b3, b4, b5⟩ := yAddC (c := W.top) p1 kq y2 (by rw [hR]; exact hn) (by rw [hR]; show Q.sc < 10; omega) ⟨fr_n (Nat.le_refl _), _, c2.2.1, by
        subst hR
        show (if 7 ≤ 0 ∧ 0 < 13 then (-1 : Int32) else upd (fun _ => 0) 0 (nI v) 0) = nI (otg Q.sc Q.tg v Q.sc)
        rw [if_neg (by omega), pk_us]
        exact congrArg nI (if_pos rfl).symm, fun u hu => by
        have hu6 : u < 6 := by rw [hR] at hu; have hu : u < Q.n := hu; omega
        subst hR
        refine ⟨?_, ?_⟩
        · show (if 7 ≤ 1 + u ∧ 1 + u < 13 then (-1 : Int32) else upd (fun _ => 0) 0 (nI v) (1 + u)) = nI (owt Q.sc Q.wt Q.sc u)
          rw [if_neg (by omega), upd_f, if_neg (by omega)]
          exact congrArg nI (if_pos rfl).symm
        · show (if 7 ≤ 7 + u ∧ 7 + u < 13 then (-1 : Int32) else upd (fun _ => 0) 0 (nI v) (7 + u)) = pI (opr Q.sc Q.pr Q.sc u)
          rw [if_pos (by omega)]
          unfold opr
          rw [if_pos rfl]
          rfl⟩ (Nat.le_refl _) (by omega)
      have y3 : Yd w3 V3.cl g (Q.wS (Q.sc + 1) (otg Q.sc Q.tg v) (owt Q.sc Q.wt) (opr Q.sc Q.pr)) := by
        subst hR
        exact b4
      obtain ⟨st3, u1, u2, u3⟩ := ySize y3
      have u3 : F_349 V3 st3 = some (nI (Q.sc + 1)) := u3
      have fz0 : Fz w (fr w g W.top) g 1 13 W V2 := ⟨fun b hb => fr_o hb, fun b hb _ => by rw [c2.1 b (by omega), k2.1, if_neg (by omega)], k2.2.1.tr c2.2.2.1, (k2.co.tr c2.2.2.2.1).up (by show 1 + 0 ≤ 1; decide) (by omega), by omega⟩
      have fzz := fz0.tr b5
      refine res_z P (X := V3) (w1 := w3) (due := nI Q.sc) (Q' := Q.wS (Q.sc + 1) (otg Q.sc Q.tg v) (owt Q.sc Q.wt) (opr Q.sc Q.pr)) (G := F_90 V3 (nI v)) ?_ fzz y3 (fun c => ?_) (fun W2 q => cal V3 _ ?_) (fun V => h381n (by omega)) rfl (Nat.le_add_right _ _) (by decide) (by decide)
      · have e2 : W.nA 0 13 = some (W.top, X) := e2
        have e3 : X.sI W.top 0 (nI v) = some V1 := e3
        unfold J_385_0_j580
        rw [m1, Option.bind_some, if_pos hvI, s1, Option.bind_some, s2, Option.bind_some, s3, Option.bind_some, if_pos (show ¬ nI Q.sc = 6 by rw [show (6 : Int32) = nI 6 from rfl, nI_eq (by omega) (by decide)]; exact hs6), e2, Option.bind_some]
        dsimp only
        rw [e3, Option.bind_some, e4, Option.bind_some, b1, Option.bind_some, b2, Option.bind_some, b3, Option.bind_some]
        dsimp only
        rw [u1, Option.bind_some, u2, Option.bind_some, u3, Option.bind_some, nI_pred]
      · have k := hc V3 c (by have q1 := fzz.2.2.2.1.1; have q2 := fzz.2.2.2.1.2.2; omega)
        rw [if_neg hs6] at k
        exact k
      · unfold F_376
        rw [q, Option.bind_some]
        rfl
theorem t803 (P : PRE w W g y a Q H S r) {k : Nat} (hk : k ≤ Q.sc) : Res w W g y Q H S (J_385_0_j803 W g (nI k)) (fun W1 => J_386_0_j246 W1 (nI k)) := by
  obtain ⟨p1, p2, p3, p4, p5, p6, p7, p8, p9⟩ := id P
  have hn := p8.2.1.1.2.1
  have h6 := p8.2.1.2.2.1.1
  obtain ⟨st, s1, s2, s3⟩ := ySize p1
  have cal : ∀ V : Wd, ∀ q, F_378 V (nI k) = some q → J_386_0_j246 V (nI k) = some q := fun V q e => by
    unfold J_386_0_j246
    rw [e, Option.bind_some]
  by_cases hks : k = Q.sc
  · refine res_e P (due := 3294967295) (j := 2) ?_ (cDropX p8 (x := nI k) (by rw [hks]; exact isv_n (by omega))) (fun W2 e => cal W _ ?_) (fun V => (cod V).1)
    · unfold J_385_0_j803
      rw [s1, Option.bind_some, s2, Option.bind_some, s3, Option.bind_some, if_neg (fun z => z (by rw [hks]))]
    · unfold F_378
      rw [e, Option.bind_some]
      rfl
  · have hkl : k < Q.sc := by omega
    obtain ⟨st', s, X, q1, q2, q3, q4, q5, q6, q7, q8⟩ := yDrop p1 hn hkl
    obtain ⟨st3, u1, u2, u3⟩ := ySize q5
    have u3 : F_349 X st3 = some (nI (Q.sc - 1)) := u3
    have tX : X.top ≤ W.top := by have c1 := q8.1; have c2 := q8.2.2; omega
    refine res_k P (X := X) (w1 := w) (due := nI (Q.sc - 1)) (Q' := Q.wS (Q.sc - 1) (dtg k Q.tg) (dwt k Q.wt) (dwt k Q.pr)) (G := F_92 X (nI k)) ?_ (fun b c hb h1 _ => ⟨by rw [q6 b h1]; exact hb, rfl⟩) q7 q8 ⟨q6 y (by rw [p5]; exact p6), rfl⟩ q5 (fun c => cDrop c (by omega) hkl) (fun W2 q => cal X _ ?_) (fun V => h381n (by omega)) rfl (Nat.le_add_right _ _) (by omega) (by decide)
    · unfold J_385_0_j803
      rw [s1, Option.bind_some, s2, Option.bind_some, s3, Option.bind_some, if_pos (by rw [nI_eq (by omega) (by omega)]; exact hks), Option.bind_some, s2, Option.bind_some]
      rw [s1] at q1
      cases q1
      rw [q3, Option.bind_some]
      dsimp only
      rw [q4, Option.bind_some, u1, Option.bind_some, u2, Option.bind_some, u3, Option.bind_some]
    · unfold F_378
      rw [q, Option.bind_some]
      rfl
theorem t666 (P : PRE w W g y a Q H S r) {x k : Nat} (hx : x < 2 ^ 31) (hk : k ≤ Q.sc) : ∃ z, (∀ V : Wd, F_383 V (nI (x / 64 / 5)) 0 64 = some z) ∧ Res w W g y Q H S (J_385_0_j666 W g (nI x) (nI (x / 64)) (nI k)) (fun W1 => F_377 W1 (nI k) (nI (on (x / 64) Q.n)) (nI (on (x / 9) Q.n)) z) := by
  obtain ⟨p1, p2, p3, p4, p5, p6, p7, p8, p9⟩ := id P
  have hn := p8.2.1.1.2.1
  have h6 := p8.2.1.2.2.1.1
  obtain ⟨m1, m2⟩ := yMany' p1
  obtain ⟨st, s1, s2, s3⟩ := ySize p1
  obtain ⟨z, hz, hzz⟩ := h383w (W := W) (x := x / 64 / 5) (by omega)
  have hzV : ∀ V : Wd, F_383 V (nI (x / 64 / 5)) 0 64 = some z := fun V => hz
  have hv := on_le (x / 64) Q.n
  have hp := on_le (x / 9) Q.n
  have e1 : F_382 W (nI (x / 64)) (nI Q.n) = some (nI (on (x / 64) Q.n)) := h382 (by omega) (by omega)
  have e2 : F_382 W (nI (x / 9)) (nI Q.n) = some (nI (on (x / 9) Q.n)) := h382 (by omega) (by omega)
  have d9 : nI x / 9 = nI (x / 9) := pk_div (a := x) (d := 9) hx (by decide) (by decide)
  have d5 : nI (x / 64) / 5 = nI (x / 64 / 5) := pk_div (a := x / 64) (d := 5) (by omega) (by decide) (by decide)
  generalize on (x / 64) Q.n = v at *
  generalize on (x / 9) Q.n = p at *
  refine ⟨z, hzV, ?_⟩
  have pre : J_385_0_j666 W g (nI x) (nI (x / 64)) (nI k) = (if nI k = nI Q.sc then J_385_0_j732 W else if nI v = nI Q.n then J_385_0_j732 W else if ¬ nI p = nI Q.n then (F_352 W st (nI k)).bind fun v261 => (W.ra v261 0).bind fun _ => (F_384 W z 0 64).bind fun v264 => if v264 = 0 then J_385_0_j769 W else (W.aI v261 0).bind fun v266 => if ¬ v266 = nI v then (W.aI v261 (1 + nI v)).bind fun v269 => (W.sI v261 (1 + nI v) z).bind fun B271 => (B271.sI v261 (7 + nI v) (nI p)).bind fun B273 => some (v269, B273) else J_385_0_j769 W else J_385_0_j732 W) := by
    unfold J_385_0_j666
    rw [m1, Option.bind_some, e1, Option.bind_some, Option.bind_some, d9, e2, Option.bind_some, d5, hz, Option.bind_some, s1, Option.bind_some, s2, Option.bind_some, s3, Option.bind_some, Option.bind_some, Option.bind_some, Option.bind_some, s2, Option.bind_some]
  have idx : (isv Q.sc (nI k) && (isv Q.n (nI v) && isv Q.n (nI p))) = false → J_385_0_j666 W g (nI x) (nI (x / 64)) (nI k) = some (3294967295, W) → Res w W g y Q H S (J_385_0_j666 W g (nI x) (nI (x / 64)) (nI k)) (fun W1 => F_377 W1 (nI k) (nI v) (nI p) z) := fun h1 h2 => by
    refine res_e P (due := 3294967295) (j := 2) h2 (cWeighX p8 h1 z) (fun W2 e => ?_) (fun V => (cod V).1)
    show F_377 W _ _ _ _ = _
    unfold F_377
    rw [e, Option.bind_some]
    rfl
  by_cases hks : k = Q.sc
  · exact idx (by rw [hks, isv_n (by omega)]; rfl) (by rw [pre, if_pos (by rw [hks])]; rfl)
  by_cases hvn : v = Q.n
  · exact idx (by rw [hvn, isv_n (n := Q.n) (by omega), Bool.false_and, Bool.and_false]) (by rw [pre, if_neg (by rw [nI_eq (by omega) (by omega)]; exact hks), if_pos (by rw [hvn])]; rfl)
  by_cases hpn : p = Q.n
  · exact idx (by rw [hpn, isv_n (n := Q.n) (by omega), Bool.and_false, Bool.and_false]) (by rw [pre, if_neg (by rw [nI_eq (by omega) (by omega)]; exact hks), if_neg (by rw [nI_eq (by omega) (by omega)]; exact hvn), if_neg (fun q => q (by rw [hpn]))]; rfl)
  have hkl : k < Q.sc := by omega
  have hvl : v < Q.n := by omega
  have hpl : p < Q.n := by omega
  rw [if_neg (by rw [nI_eq (by omega) (by omega)]; exact hks), if_neg (by rw [nI_eq (by omega) (by omega)]; exact hvn), if_pos (by rw [nI_eq (by omega) (by omega)]; exact hpn), h384] at pre
  have htg := (p8.2.1.2.2.1.2 k hkl).1
  have arg : J_385_0_j666 W g (nI x) (nI (x / 64)) (nI k) = some (3294967294, W) → Ou W (F_91 W (nI k) (nI v) (nI p) z) (.inr 1) Q H S r → Res w W g y Q H S (J_385_0_j666 W g (nI x) (nI (x / 64)) (nI k)) (fun W1 => F_377 W1 (nI k) (nI v) (nI p) z) := fun h1 h2 => by
    refine res_e P (due := 3294967294) (j := 1) h1 h2 (fun W2 e => ?_) (fun V => (cod V).2.1)
    show F_377 W _ _ _ _ = _
    unfold F_377
    rw [e, Option.bind_some]
    rfl
  rcases hzz with ⟨c, hc, rfl⟩ | hzz
  · obtain ⟨st', s, X1, X2, q1, q2, q3, q4, q5, q6, q7, q8, q9, q10⟩ := yWeigh p1 hn hkl hvl c p
    rw [s1] at q1
    cases q1
    have in64 : (0 ≤ nI c ∧ nI c ≤ 64) := ⟨nI_pos' (by omega), nI_le (b := 64) hc (by decide)⟩
    rw [q3, Option.bind_some, q4, Option.bind_some, Option.bind_some, decide_eq_true in64, if_neg (by decide), q5, Option.bind_some] at pre
    have hw := cWeigh p8 (show W.top < 900000 by omega) hkl hvl hpl hc
    by_cases hvt : v = Q.tg k
    · rw [if_pos hvt] at hw
      rw [if_neg (fun q => q (by rw [hvt]))] at pre
      exact arg pre hw
    · rw [if_pos (by rw [nI_eq (by omega) (by omega)]; exact fun q => hvt q.symm), q6, Option.bind_some, q7, Option.bind_some, q8, Option.bind_some] at pre
      have hwt := ((p8.2.1.2.2.1.2 k hkl).2 v hvl).1
      refine res_z P (X := X2) (w1 := w) (due := nI (Q.wt k v)) (Q' := Q.wS Q.sc Q.tg (uwt k v c Q.wt) (uwt k v (some p) Q.pr)) (G := F_91 X2 (nI k) (nI v) (nI p) (nI c)) pre q10.fz q9 (fun cc => ?_) (fun W2 q => ?_) (fun V => h381n (by omega)) rfl (Nat.le_add_right _ _) (by decide) (by decide)
      · have k2 := cWeigh cc (show X2.top < 900000 by have := q10.2.2.2; omega) hkl hvl hpl hc
        rw [if_neg hvt] at k2
        exact k2
      · show F_377 X2 _ _ _ _ = _
        unfold F_377
        rw [q, Option.bind_some]
        rfl
  · obtain ⟨st', s, X1, X2, q1, q2, q3, q4, q5, q6, q7, q8, q9, q10⟩ := yWeigh p1 hn hkl hvl 0 p
    rw [s1] at q1
    cases q1
    rw [q3, Option.bind_some, q4, Option.bind_some, Option.bind_some, decide_eq_false hzz, if_pos (by decide)] at pre
    exact arg pre (cWeigh1 p8 hkl hvl hpl hzz)
theorem p385 (h : Yd w W.cl g Q) (hn : Q.n ≤ 6) {x : Nat} (hx : x < 2 ^ 31) (z : Int32) : F_385 W g y z (nI x) = J_385_0_j50 W g y z (nI x) (nI (x / 64)) (nI (on x Q.n)) (nI (on (x / 64) Q.n)) (bI (decide (on x Q.n < Q.n ∧ on (x / 64) Q.n < Q.n))) := by
  obtain ⟨m1, m2⟩ := yMany' h
  have d64 : nI x / 64 = nI (x / 64) := pk_div (a := x) (d := 64) hx (by decide) (by decide)
  have l1 := on_le x Q.n
  have l2 := on_le (x / 64) Q.n
  unfold F_385
  rw [m1, Option.bind_some, h382 hx (by omega), Option.bind_some, Option.bind_some, d64, h382 (by omega) (by omega), Option.bind_some, Option.bind_some]
  by_cases h1 : on x Q.n < Q.n
  · rw [if_neg (nI_ge h1 (by omega)), Option.bind_some]
    by_cases h2 : on (x / 64) Q.n < Q.n
    · rw [if_neg (nI_ge h2 (by omega)), decide_eq_true ⟨h1, h2⟩]
      rfl
    · rw [if_pos (nI_le (by omega) (by omega)), decide_eq_false (fun q => h2 q.2)]
      rfl
  · rw [if_pos (nI_le (by omega) (by omega)), decide_eq_false (fun q => h1 q.1)]
    rfl
/-- a whole drawn call, act and answer -/
theorem turn (P : PRE w W g y a Q H S r) (hs : sm Q.pl Q.n ≤ 5988) {x : Nat} (hx : x < 2 ^ 31) : ∀ k, k < 16 → ∃ C, Res w W g y Q H S (F_385 W g y (nI k) (nI x)) C ∧ ∀ (W1 : Wd) (w1 : Nat → Nat), Yd w1 W1.cl a Q → F_386 W1 a (nI k) (nI x) = C W1 := by
  obtain ⟨p1, p2, p3, p4, p5, p6, p7, p8, p9⟩ := id P
  have hn := p8.2.1.1.2.1
  have h6 := p8.2.1.2.2.1.1
  obtain ⟨st, s1, s2, s3⟩ := ySize p1
  have d64 : nI x / 64 = nI (x / 64) := pk_div (a := x) (d := 64) hx (by decide) (by decide)
  have d9 : nI x / 9 = nI (x / 9) := pk_div (a := x) (d := 9) hx (by decide) (by decide)
  have d5 : nI (x / 64) / 5 = nI (x / 64 / 5) := pk_div (a := x / 64) (d := 5) (by omega) (by decide) (by decide)
  have l1 := on_le x Q.n
  have l2 := on_le (x / 64) Q.n
  have l3 := on_le x Q.sc
  have pos : ∀ z, F_385 W g y z (nI x) = _ := fun z => p385 (y := y) p1 hn hx z
  have e18 : F_382 W (nI x) (nI Q.sc) = some (nI (on x Q.sc)) := h382 hx (by omega)
  intro k hk
  match k, hk with
  | 0, _ =>
    refine ⟨(fun W1 => F_373 W1 (nI (on x Q.n)) (nI (on (x / 64) Q.n))), ?_, fun W1 w1 ya => ?_⟩
    · have e := t140 P l1 l2
      rw [pos]
      unfold J_385_0_j50
      rw [s1, Option.bind_some, s2, Option.bind_some, s3, Option.bind_some, e18, Option.bind_some, show nI 0 = 0 from rfl, if_pos rfl]
      exact e
    · obtain ⟨n1, n2⟩ := yMany' ya
      obtain ⟨sa, b1, b2, b3⟩ := ySize ya
      unfold F_386
      rw [n1, Option.bind_some, h382 hx (by omega), Option.bind_some, Option.bind_some, d64, h382 (by omega) (by omega), Option.bind_some, b1, Option.bind_some, b2, Option.bind_some, b3, Option.bind_some, h382 hx (by omega), Option.bind_some, show nI 0 = 0 from rfl, if_pos rfl]
      unfold J_386_0_j116
      show (F_373 W1 (nI (on x Q.n)) (nI (on (x / 64) Q.n))).bind _ = F_373 W1 (nI (on x Q.n)) (nI (on (x / 64) Q.n))
      cases F_373 W1 (nI (on x Q.n)) (nI (on (x / 64) Q.n)) with
      | none => rfl
      | some q => rfl
  | 1, _ =>
    refine ⟨(fun W1 => F_373 W1 (nI (on x Q.n)) (nI (on (x / 64) Q.n))), ?_, fun W1 w1 ya => ?_⟩
    · have e := t140 P l1 l2
      rw [pos]
      unfold J_385_0_j50
      rw [s1, Option.bind_some, s2, Option.bind_some, s3, Option.bind_some, e18, Option.bind_some, show nI 1 = 1 from rfl, if_neg (by decide), if_pos rfl]
      exact e
    · obtain ⟨n1, n2⟩ := yMany' ya
      obtain ⟨sa, b1, b2, b3⟩ := ySize ya
      unfold F_386
      rw [n1, Option.bind_some, h382 hx (by omega), Option.bind_some, Option.bind_some, d64, h382 (by omega) (by omega), Option.bind_some, b1, Option.bind_some, b2, Option.bind_some, b3, Option.bind_some, h382 hx (by omega), Option.bind_some, show nI 1 = 1 from rfl, if_neg (by decide), if_pos rfl]
      unfold J_386_0_j116
      show (F_373 W1 (nI (on x Q.n)) (nI (on (x / 64) Q.n))).bind _ = F_373 W1 (nI (on x Q.n)) (nI (on (x / 64) Q.n))
      cases F_373 W1 (nI (on x Q.n)) (nI (on (x / 64) Q.n)) with
      | none => rfl
      | some q => rfl
  | 2, _ =>
    refine ⟨(fun W1 => F_374 W1 (nI (on x Q.n)) (nI (on (x / 64) Q.n))), ?_, fun W1 w1 ya => ?_⟩
    · have e := t190 P l1 l2
      rw [pos]
      unfold J_385_0_j50
      rw [s1, Option.bind_some, s2, Option.bind_some, s3, Option.bind_some, e18, Option.bind_some, show nI 2 = 2 from rfl, if_neg (by decide), if_neg (by decide), if_pos rfl]
      exact e
    · obtain ⟨n1, n2⟩ := yMany' ya
      obtain ⟨sa, b1, b2, b3⟩ := ySize ya
      unfold F_386
      rw [n1, Option.bind_some, h382 hx (by omega), Option.bind_some, Option.bind_some, d64, h382 (by omega) (by omega), Option.bind_some, b1, Option.bind_some, b2, Option.bind_some, b3, Option.bind_some, h382 hx (by omega), Option.bind_some, show nI 2 = 2 from rfl, if_neg (by decide), if_neg (by decide), if_pos rfl]
      unfold J_386_0_j125
      show (F_374 W1 (nI (on x Q.n)) (nI (on (x / 64) Q.n))).bind _ = F_374 W1 (nI (on x Q.n)) (nI (on (x / 64) Q.n))
      cases F_374 W1 (nI (on x Q.n)) (nI (on (x / 64) Q.n)) with
      | none => rfl
      | some q => rfl
  | 3, _ =>
    refine ⟨(fun W1 => F_374 W1 (nI (on x Q.n)) (nI (on (x / 64) Q.n))), ?_, fun W1 w1 ya => ?_⟩
    · have e := t190 P l1 l2
      rw [pos]
      unfold J_385_0_j50
      rw [s1, Option.bind_some, s2, Option.bind_some, s3, Option.bind_some, e18, Option.bind_some, show nI 3 = 3 from rfl, if_neg (by decide), if_neg (by decide), if_neg (by decide), if_pos rfl]
      exact e
    · obtain ⟨n1, n2⟩ := yMany' ya
      obtain ⟨sa, b1, b2, b3⟩ := ySize ya
      unfold F_386
      rw [n1, Option.bind_some, h382 hx (by omega), Option.bind_some, Option.bind_some, d64, h382 (by omega) (by omega), Option.bind_some, b1, Option.bind_some, b2, Option.bind_some, b3, Option.bind_some, h382 hx (by omega), Option.bind_some, show nI 3 = 3 from rfl, if_neg (by decide), if_neg (by decide), if_neg (by decide), if_pos rfl]
      unfold J_386_0_j125
      show (F_374 W1 (nI (on x Q.n)) (nI (on (x / 64) Q.n))).bind _ = F_374 W1 (nI (on x Q.n)) (nI (on (x / 64) Q.n))
      cases F_374 W1 (nI (on x Q.n)) (nI (on (x / 64) Q.n)) with
      | none => rfl
      | some q => rfl
  | 4, _ =>
    refine ⟨(fun W1 => J_386_0_j134 W1 (nI (x / 64)) (nI (on x Q.n))), ?_, fun W1 w1 ya => ?_⟩
    · have e := t255 (x := x / 64) P l1 (by omega)
      rw [pos]
      unfold J_385_0_j50
      rw [s1, Option.bind_some, s2, Option.bind_some, s3, Option.bind_some, e18, Option.bind_some, show nI 4 = 4 from rfl, if_neg (by decide), if_neg (by decide), if_neg (by decide), if_neg (by decide), if_pos rfl]
      exact e
    · obtain ⟨n1, n2⟩ := yMany' ya
      obtain ⟨sa, b1, b2, b3⟩ := ySize ya
      unfold F_386
      rw [n1, Option.bind_some, h382 hx (by omega), Option.bind_some, Option.bind_some, d64, h382 (by omega) (by omega), Option.bind_some, b1, Option.bind_some, b2, Option.bind_some, b3, Option.bind_some, h382 hx (by omega), Option.bind_some, show nI 4 = 4 from rfl, if_neg (by decide), if_neg (by decide), if_neg (by decide), if_neg (by decide), if_pos rfl]
  | 5, _ =>
    refine ⟨(fun W1 => J_386_0_j134 W1 (nI (x / 64)) (nI (on x Q.n))), ?_, fun W1 w1 ya => ?_⟩
    · have e := t255 (x := x / 64) P l1 (by omega)
      rw [pos]
      unfold J_385_0_j50
      rw [s1, Option.bind_some, s2, Option.bind_some, s3, Option.bind_some, e18, Option.bind_some, show nI 5 = 5 from rfl, if_neg (by decide), if_neg (by decide), if_neg (by decide), if_neg (by decide), if_neg (by decide), if_pos rfl]
      exact e
    · obtain ⟨n1, n2⟩ := yMany' ya
      obtain ⟨sa, b1, b2, b3⟩ := ySize ya
      unfold F_386
      rw [n1, Option.bind_some, h382 hx (by omega), Option.bind_some, Option.bind_some, d64, h382 (by omega) (by omega), Option.bind_some, b1, Option.bind_some, b2, Option.bind_some, b3, Option.bind_some, h382 hx (by omega), Option.bind_some, show nI 5 = 5 from rfl, if_neg (by decide), if_neg (by decide), if_neg (by decide), if_neg (by decide), if_neg (by decide), if_pos rfl]
  | 6, _ =>
    refine ⟨(fun W1 => J_386_0_j134 W1 (nI (x / 64)) (nI (on x Q.n))), ?_, fun W1 w1 ya => ?_⟩
    · have e := t255 (x := x / 64) P l1 (by omega)
      rw [pos]
      unfold J_385_0_j50
      rw [s1, Option.bind_some, s2, Option.bind_some, s3, Option.bind_some, e18, Option.bind_some, show nI 6 = 6 from rfl, if_neg (by decide), if_neg (by decide), if_neg (by decide), if_neg (by decide), if_neg (by decide), if_neg (by decide), if_pos rfl]
      exact e
    · obtain ⟨n1, n2⟩ := yMany' ya
      obtain ⟨sa, b1, b2, b3⟩ := ySize ya
      unfold F_386
      rw [n1, Option.bind_some, h382 hx (by omega), Option.bind_some, Option.bind_some, d64, h382 (by omega) (by omega), Option.bind_some, b1, Option.bind_some, b2, Option.bind_some, b3, Option.bind_some, h382 hx (by omega), Option.bind_some, show nI 6 = 6 from rfl, if_neg (by decide), if_neg (by decide), if_neg (by decide), if_neg (by decide), if_neg (by decide), if_neg (by decide), if_pos rfl]
  | 7, _ =>
    refine ⟨(fun W1 => J_386_0_j160 W1 (nI (x / 64)) (nI (on x Q.n))), ?_, fun W1 w1 ya => ?_⟩
    · have e := t338 (x := x / 64) P l1 (by omega)
      rw [pos]
      unfold J_385_0_j50
      rw [s1, Option.bind_some, s2, Option.bind_some, s3, Option.bind_some, e18, Option.bind_some, show nI 7 = 7 from rfl, if_neg (by decide), if_neg (by decide), if_neg (by decide), if_neg (by decide), if_neg (by decide), if_neg (by decide), if_neg (by decide), if_pos rfl]
      exact e
    · obtain ⟨n1, n2⟩ := yMany' ya
      obtain ⟨sa, b1, b2, b3⟩ := ySize ya
      unfold F_386
      rw [n1, Option.bind_some, h382 hx (by omega), Option.bind_some, Option.bind_some, d64, h382 (by omega) (by omega), Option.bind_some, b1, Option.bind_some, b2, Option.bind_some, b3, Option.bind_some, h382 hx (by omega), Option.bind_some, show nI 7 = 7 from rfl, if_neg (by decide), if_neg (by decide), if_neg (by decide), if_neg (by decide), if_neg (by decide), if_neg (by decide), if_neg (by decide), if_pos rfl]
  | 8, _ =>
    refine ⟨(fun W1 => J_386_0_j186 W1 (nI (on x Q.n)) (nI (on (x / 64) Q.n))), ?_, fun W1 w1 ya => ?_⟩
    · have e := t423 P l1 l2
      rw [pos]
      unfold J_385_0_j50
      rw [s1, Option.bind_some, s2, Option.bind_some, s3, Option.bind_some, e18, Option.bind_some, show nI 8 = 8 from rfl, if_neg (by decide), if_neg (by decide), if_neg (by decide), if_neg (by decide), if_neg (by decide), if_neg (by decide), if_neg (by decide), if_neg (by decide), if_pos rfl]
      exact e
    · obtain ⟨n1, n2⟩ := yMany' ya
      obtain ⟨sa, b1, b2, b3⟩ := ySize ya
      unfold F_386
      rw [n1, Option.bind_some, h382 hx (by omega), Option.bind_some, Option.bind_some, d64, h382 (by omega) (by omega), Option.bind_some, b1, Option.bind_some, b2, Option.bind_some, b3, Option.bind_some, h382 hx (by omega), Option.bind_some, show nI 8 = 8 from rfl, if_neg (by decide), if_neg (by decide), if_neg (by decide), if_neg (by decide), if_neg (by decide), if_neg (by decide), if_neg (by decide), if_neg (by decide), if_pos rfl]
  | 9, _ =>
    refine ⟨(fun W1 => J_386_0_j186 W1 (nI (on x Q.n)) (nI (on (x / 64) Q.n))), ?_, fun W1 w1 ya => ?_⟩
    · have e := t423 P l1 l2
      rw [pos]
      unfold J_385_0_j50
      rw [s1, Option.bind_some, s2, Option.bind_some, s3, Option.bind_some, e18, Option.bind_some, show nI 9 = 9 from rfl, if_neg (by decide), if_neg (by decide), if_neg (by decide), if_neg (by decide), if_neg (by decide), if_neg (by decide), if_neg (by decide), if_neg (by decide), if_neg (by decide), if_pos rfl]
      exact e
    · obtain ⟨n1, n2⟩ := yMany' ya
      obtain ⟨sa, b1, b2, b3⟩ := ySize ya
      unfold F_386
      rw [n1, Option.bind_some, h382 hx (by omega), Option.bind_some, Option.bind_some, d64, h382 (by omega) (by omega), Option.bind_some, b1, Option.bind_some, b2, Option.bind_some, b3, Option.bind_some, h382 hx (by omega), Option.bind_some, show nI 9 = 9 from rfl, if_neg (by decide), if_neg (by decide), if_neg (by decide), if_neg (by decide), if_neg (by decide), if_neg (by decide), if_neg (by decide), if_neg (by decide), if_neg (by decide), if_pos rfl]
  | 10, _ =>
    refine ⟨(fun W1 => J_386_0_j186 W1 (nI (on x Q.n)) (nI (on (x / 64) Q.n))), ?_, fun W1 w1 ya => ?_⟩
    · have e := t423 P l1 l2
      rw [pos]
      unfold J_385_0_j50
      rw [s1, Option.bind_some, s2, Option.bind_some, s3, Option.bind_some, e18, Option.bind_some, show nI 10 = 10 from rfl, if_neg (by decide), if_neg (by decide), if_neg (by decide), if_neg (by decide), if_neg (by decide), if_neg (by decide), if_neg (by decide), if_neg (by decide), if_neg (by decide), if_neg (by decide), if_pos rfl]
      exact e
    · obtain ⟨n1, n2⟩ := yMany' ya
      obtain ⟨sa, b1, b2, b3⟩ := ySize ya
      unfold F_386
      rw [n1, Option.bind_some, h382 hx (by omega), Option.bind_some, Option.bind_some, d64, h382 (by omega) (by omega), Option.bind_some, b1, Option.bind_some, b2, Option.bind_some, b3, Option.bind_some, h382 hx (by omega), Option.bind_some, show nI 10 = 10 from rfl, if_neg (by decide), if_neg (by decide), if_neg (by decide), if_neg (by decide), if_neg (by decide), if_neg (by decide), if_neg (by decide), if_neg (by decide), if_neg (by decide), if_neg (by decide), if_pos rfl]
  | 11, _ =>
    refine ⟨(fun W1 => J_386_0_j195 W1 (nI (on x Q.n))), ?_, fun W1 w1 ya => ?_⟩
    · have e := t503 P l1 hs
      rw [pos]
      unfold J_385_0_j50
      rw [s1, Option.bind_some, s2, Option.bind_some, s3, Option.bind_some, e18, Option.bind_some, show nI 11 = 11 from rfl, if_neg (by decide), if_neg (by decide), if_neg (by decide), if_neg (by decide), if_neg (by decide), if_neg (by decide), if_neg (by decide), if_neg (by decide), if_neg (by decide), if_neg (by decide), if_neg (by decide), if_pos rfl]
      exact e
    · obtain ⟨n1, n2⟩ := yMany' ya
      obtain ⟨sa, b1, b2, b3⟩ := ySize ya
      unfold F_386
      rw [n1, Option.bind_some, h382 hx (by omega), Option.bind_some, Option.bind_some, d64, h382 (by omega) (by omega), Option.bind_some, b1, Option.bind_some, b2, Option.bind_some, b3, Option.bind_some, h382 hx (by omega), Option.bind_some, show nI 11 = 11 from rfl, if_neg (by decide), if_neg (by decide), if_neg (by decide), if_neg (by decide), if_neg (by decide), if_neg (by decide), if_neg (by decide), if_neg (by decide), if_neg (by decide), if_neg (by decide), if_neg (by decide), if_pos rfl]
  | 12, _ =>
    refine ⟨(fun W1 => J_386_0_j202 W1 (nI (on x Q.n))), ?_, fun W1 w1 ya => ?_⟩
    · have e := t580 P l1
      rw [pos]
      unfold J_385_0_j50
      rw [s1, Option.bind_some, s2, Option.bind_some, s3, Option.bind_some, e18, Option.bind_some, show nI 12 = 12 from rfl, if_neg (by decide), if_neg (by decide), if_neg (by decide), if_neg (by decide), if_neg (by decide), if_neg (by decide), if_neg (by decide), if_neg (by decide), if_neg (by decide), if_neg (by decide), if_neg (by decide), if_neg (by decide), if_pos rfl]
      exact e
    · obtain ⟨n1, n2⟩ := yMany' ya
      obtain ⟨sa, b1, b2, b3⟩ := ySize ya
      unfold F_386
      rw [n1, Option.bind_some, h382 hx (by omega), Option.bind_some, Option.bind_some, d64, h382 (by omega) (by omega), Option.bind_some, b1, Option.bind_some, b2, Option.bind_some, b3, Option.bind_some, h382 hx (by omega), Option.bind_some, show nI 12 = 12 from rfl, if_neg (by decide), if_neg (by decide), if_neg (by decide), if_neg (by decide), if_neg (by decide), if_neg (by decide), if_neg (by decide), if_neg (by decide), if_neg (by decide), if_neg (by decide), if_neg (by decide), if_neg (by decide), if_pos rfl]
  | 13, _ =>
    obtain ⟨z, hz, hR⟩ := t666 P hx l3
    refine ⟨(fun W1 => F_377 W1 (nI (on x Q.sc)) (nI (on (x / 64) Q.n)) (nI (on (x / 9) Q.n)) z), ?_, fun W1 w1 ya => ?_⟩
    · have e : F_385 W g y (nI 13) (nI x) = J_385_0_j666 W g (nI x) (nI (x / 64)) (nI (on x Q.sc)) := by
        rw [pos]
        unfold J_385_0_j50
        rw [s1, Option.bind_some, s2, Option.bind_some, s3, Option.bind_some, e18, Option.bind_some, show nI 13 = 13 from rfl, if_neg (by decide), if_neg (by decide), if_neg (by decide), if_neg (by decide), if_neg (by decide), if_neg (by decide), if_neg (by decide), if_neg (by decide), if_neg (by decide), if_neg (by decide), if_neg (by decide), if_neg (by decide), if_neg (by decide), if_pos rfl]
      rw [e]
      exact hR
    · obtain ⟨n1, n2⟩ := yMany' ya
      obtain ⟨sa, b1, b2, b3⟩ := ySize ya
      unfold F_386
      rw [n1, Option.bind_some, h382 hx (by omega), Option.bind_some, Option.bind_some, d64, h382 (by omega) (by omega), Option.bind_some, b1, Option.bind_some, b2, Option.bind_some, b3, Option.bind_some, h382 hx (by omega), Option.bind_some, show nI 13 = 13 from rfl, if_neg (by decide), if_neg (by decide), if_neg (by decide), if_neg (by decide), if_neg (by decide), if_neg (by decide), if_neg (by decide), if_neg (by decide), if_neg (by decide), if_neg (by decide), if_neg (by decide), if_neg (by decide), if_neg (by decide), if_pos rfl]
      unfold J_386_0_j209
      rw [n1, Option.bind_some, h382 (by omega) (by omega), Option.bind_some, Option.bind_some, d9, h382 (by omega) (by omega), Option.bind_some, d5, hz, Option.bind_some]
      show (F_377 W1 (nI (on x Q.sc)) (nI (on (x / 64) Q.n)) (nI (on (x / 9) Q.n)) z).bind _ = F_377 W1 (nI (on x Q.sc)) (nI (on (x / 64) Q.n)) (nI (on (x / 9) Q.n)) z
      cases F_377 W1 (nI (on x Q.sc)) (nI (on (x / 64) Q.n)) (nI (on (x / 9) Q.n)) z with
      | none => rfl
      | some q => rfl
  | 14, _ =>
    obtain ⟨z, hz, hR⟩ := t666 P hx l3
    refine ⟨(fun W1 => F_377 W1 (nI (on x Q.sc)) (nI (on (x / 64) Q.n)) (nI (on (x / 9) Q.n)) z), ?_, fun W1 w1 ya => ?_⟩
    · have e : F_385 W g y (nI 14) (nI x) = J_385_0_j666 W g (nI x) (nI (x / 64)) (nI (on x Q.sc)) := by
        rw [pos]
        unfold J_385_0_j50
        rw [s1, Option.bind_some, s2, Option.bind_some, s3, Option.bind_some, e18, Option.bind_some, show nI 14 = 14 from rfl, if_neg (by decide), if_neg (by decide), if_neg (by decide), if_neg (by decide), if_neg (by decide), if_neg (by decide), if_neg (by decide), if_neg (by decide), if_neg (by decide), if_neg (by decide), if_neg (by decide), if_neg (by decide), if_neg (by decide), if_neg (by decide), if_pos rfl]
      rw [e]
      exact hR
    · obtain ⟨n1, n2⟩ := yMany' ya
      obtain ⟨sa, b1, b2, b3⟩ := ySize ya
      unfold F_386
      rw [n1, Option.bind_some, h382 hx (by omega), Option.bind_some, Option.bind_some, d64, h382 (by omega) (by omega), Option.bind_some, b1, Option.bind_some, b2, Option.bind_some, b3, Option.bind_some, h382 hx (by omega), Option.bind_some, show nI 14 = 14 from rfl, if_neg (by decide), if_neg (by decide), if_neg (by decide), if_neg (by decide), if_neg (by decide), if_neg (by decide), if_neg (by decide), if_neg (by decide), if_neg (by decide), if_neg (by decide), if_neg (by decide), if_neg (by decide), if_neg (by decide), if_neg (by decide), if_pos rfl]
      unfold J_386_0_j209
      rw [n1, Option.bind_some, h382 (by omega) (by omega), Option.bind_some, Option.bind_some, d9, h382 (by omega) (by omega), Option.bind_some, d5, hz, Option.bind_some]
      show (F_377 W1 (nI (on x Q.sc)) (nI (on (x / 64) Q.n)) (nI (on (x / 9) Q.n)) z).bind _ = F_377 W1 (nI (on x Q.sc)) (nI (on (x / 64) Q.n)) (nI (on (x / 9) Q.n)) z
      cases F_377 W1 (nI (on x Q.sc)) (nI (on (x / 64) Q.n)) (nI (on (x / 9) Q.n)) z with
      | none => rfl
      | some q => rfl
  | 15, _ =>
    refine ⟨(fun W1 => J_386_0_j246 W1 (nI (on x Q.sc))), ?_, fun W1 w1 ya => ?_⟩
    · have e := t803 P l3
      rw [pos]
      unfold J_385_0_j50
      rw [s1, Option.bind_some, s2, Option.bind_some, s3, Option.bind_some, e18, Option.bind_some, show nI 15 = 15 from rfl, if_neg (by decide), if_neg (by decide), if_neg (by decide), if_neg (by decide), if_neg (by decide), if_neg (by decide), if_neg (by decide), if_neg (by decide), if_neg (by decide), if_neg (by decide), if_neg (by decide), if_neg (by decide), if_neg (by decide), if_neg (by decide), if_neg (by decide)]
      exact e
    · obtain ⟨n1, n2⟩ := yMany' ya
      obtain ⟨sa, b1, b2, b3⟩ := ySize ya
      unfold F_386
      rw [n1, Option.bind_some, h382 hx (by omega), Option.bind_some, Option.bind_some, d64, h382 (by omega) (by omega), Option.bind_some, b1, Option.bind_some, b2, Option.bind_some, b3, Option.bind_some, h382 hx (by omega), Option.bind_some, show nI 15 = 15 from rfl, if_neg (by decide), if_neg (by decide), if_neg (by decide), if_neg (by decide), if_neg (by decide), if_neg (by decide), if_neg (by decide), if_neg (by decide), if_neg (by decide), if_neg (by decide), if_neg (by decide), if_neg (by decide), if_neg (by decide), if_neg (by decide), if_neg (by decide)]
  | k + 16, hk => exact absurd hk (by omega)
end RES4
