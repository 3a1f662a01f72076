/-! ===== A DRAWN CALL: pebbles moved, a target reached, strategies ===== -/
section RES3
variable {w : Nat → Nat} {W : Wd} {g y a : Nat} {Q : Ps} {H : List Ps} {S : Option Ps} {r : Int32}
theorem t423 (P : PRE w W g y a Q H S r) {v o : Nat} (hv : v ≤ Q.n) (ho : o ≤ Q.n) : Res w W g y Q H S (J_385_0_j423 W g y (nI v) (nI o) (bI (decide (v < Q.n ∧ o < Q.n)))) (fun W1 => J_386_0_j186 W1 (nI v) (nI o)) := by
  obtain ⟨p1, p2, p3, p4, p5, p6, p7, p8, p9⟩ := id P
  have hG := p8.2.1.1
  have hn := hG.2.1
  have h9 := p8.2.1.2.2.2
  have cal : ∀ V : Wd, ∀ q, F_371 V (nI v) (nI o) = some q → J_386_0_j186 V (nI v) (nI o) = some q := fun V q e => by
    unfold J_386_0_j186
    rw [e, Option.bind_some]
  by_cases are : v < Q.n ∧ o < Q.n
  · rw [decide_eq_true are]
    have hc : ∀ V, CI Q H S r V → V.top < 900000 → _ := fun V c ht => cMove c ht are.1 are.2
    obtain ⟨e, p, st, kn, ff, kf, h1, -, h3, ⟨-, fp, h4, h5⟩, -⟩ := id p1
    obtain ⟨rr, f, e1, -, -, e2⟩ := YM.row h3 hn are.1
    have rp : W.gR g 7 2 = some p := yPebs h1
    have av : W.aI p (nI v) = some (nI (Q.pl v)) := by rw [← h5 v are.1]; exact aI_ h4 are.1 (by omega)
    have ao : W.aI p (nI o) = some (nI (Q.pl o)) := by rw [← h5 o are.2]; exact aI_ h4 are.2 (by omega)
    have pre : J_385_0_j423 W g y (nI v) (nI o) (bI true) = (if ¬ bI (ad Q.E v o) = 0 then (if 2 ≤ nI (Q.pl v) then (if ¬ nI (Q.pl o) = 999 then (W.rc g 7).bind fun _ => (F_315 W g (nI v) (nI o)).bind fun B147 => (B147.gR g 7 2).bind fun v148 => (B147.aI v148 (nI o)).bind fun v150 => some (v150, B147) else (W.rc y 6).bind fun _ => (F_301 W y 6).bind fun (v154, B155) => some (v154, B155)) else (W.rc y 6).bind fun _ => (F_301 W y 5).bind fun (v158, B159) => some (v158, B159)) else (W.rc y 6).bind fun _ => (F_301 W y 4).bind fun (v162, B163) => some (v162, B163)) := by
      unfold J_385_0_j423
      rw [if_pos (by decide), yEdge h1, Option.bind_some, e1, Option.bind_some, e2 o are.2, Option.bind_some, rp, Option.bind_some, av, Option.bind_some, Option.bind_some, ao, Option.bind_some]
    have fz0 : Fz w w g 7 42 W W := (Fz.rf w g W).up (by decide) (by decide)
    have no : ∀ k : Int32, J_385_0_j423 W g y (nI v) (nI o) (bI true) = ((W.rc y 6).bind fun _ => (F_301 W y k).bind fun (v154, B155) => some (v154, B155)) → (∀ X', CI Q H S r X' → X'.top < 750000 → Ou X' (F_88 X' (nI v) (nI o)) (.inr 0) Q H S k) → Res w W g y Q H S (J_385_0_j423 W g y (nI v) (nI o) (bI true)) (fun W1 => J_386_0_j186 W1 (nI v) (nI o)) := by
      intro k hk hO
      refine res_r P (X := W) (w1 := w) (k := k) (G := fun X => F_88 X (nI v) (nI o)) fz0 (fun X' q rc => ?_) hO (fun X' W2 q => cal X' _ ?_)
      · rw [hk, rc, Option.bind_some, q, Option.bind_some]
      · unfold F_371
        rw [q, Option.bind_some]
        rfl
    have h9v := h9 v (by omega)
    have h9o := h9 o (by omega)
    cases had : ad Q.E v o with
    | false =>
      refine no 4 (by rw [pre, had, if_neg (by decide)]) fun X' c ht => ?_
      have k := hc X' c (by omega)
      rw [if_pos had] at k
      exact k
    | true =>
      have hne : ¬ v = o := (hG.2.2 v o (by omega) had).2.2.1
      by_cases h2 : Q.pl v < 2
      · refine no 5 (by rw [pre, had, if_pos (by decide), if_neg (show ¬ 2 ≤ nI (Q.pl v) from nI_ge (b := 2) h2 (by decide))]) fun X' c ht => ?_
        have k := hc X' c (by omega)
        rw [if_neg (by rw [had]; decide), if_pos h2] at k
        exact k
      · have l2 : (2 : Int32) ≤ nI (Q.pl v) := nI_le (a := 2) (by omega) (by omega)
        by_cases h99 : Q.pl o = 999
        · refine no 6 (by rw [pre, had, if_pos (by decide), if_pos l2, if_neg (fun z => z (by rw [h99]; rfl))]) fun X' c ht => ?_
          have k := hc X' c (by omega)
          rw [if_neg (by rw [had]; decide), if_neg h2, if_pos h99] at k
          exact k
        · have l9 : ¬ nI (Q.pl o) = 999 := by rw [show (999 : Int32) = nI 999 from rfl, nI_eq (by omega) (by decide)]; exact h99
          obtain ⟨X, q1, q2, q3⟩ := yMove p1 hn are.1 are.2 hne (by omega) h9
          obtain ⟨e', p', st', kn', ff', kf', z1', -, -, ⟨-, f', z4', z5'⟩, -⟩ := id q2
          have rd : X.aI p' (nI o) = some (nI (pmv Q.pl v o o)) := by
            have q := z5' o are.2
            have z4'' : X.cl p' = some (.inl (0, Q.n, .inl f')) := z4'
            have q : f' o = nI (pmv Q.pl v o o) := q
            rw [← q]
            exact aI_ z4'' are.2 (by omega)
          have hpo : pmv Q.pl v o o = Q.pl o + 1 := by
            unfold pmv
            rw [if_pos rfl, if_neg (fun z => hne z.symm)]
          have hsm := pmv_sm (n := Q.n) are.1 are.2 hne (show 2 ≤ Q.pl v by omega)
          refine res_z P (X := X) (w1 := w) (due := nI (pmv Q.pl v o o)) (Q' := Q.wm (pmv Q.pl v o) (Q.mc + 1)) (G := F_88 X (nI v) (nI o)) ?_ q3.fz q2 (fun c => ?_) (fun W2 q => cal X _ ?_) (fun V => h381n (by omega)) rfl ?_ (by decide) (by decide)
          · rw [pre, had, if_pos (by decide), if_pos l2, if_pos l9, rc_ h1, Option.bind_some, q1, Option.bind_some, yPebs z1', Option.bind_some, rd, Option.bind_some]
          · have k := hc X c (by have := q3.2.2.2; omega)
            rw [if_neg (by rw [had]; decide), if_neg h2, if_neg h99] at k
            exact k
          · unfold F_371
            rw [q, Option.bind_some]
            rfl
          · show sm (pmv Q.pl v o) Q.n ≤ sm Q.pl Q.n + 99
            omega
  · rw [decide_eq_false are]
    refine res_e P (due := 3294967295) (j := 2) ?_ (cMoveX p8 (x := nI v) (z := nI o) ?_) (fun W2 e => cal W _ ?_) (fun V => (cod V).1)
    · unfold J_385_0_j423
      rw [if_neg (by decide)]
    · by_cases q : v < Q.n
      · have e : o = Q.n := by omega
        rw [e, isv_n (by omega), Bool.and_false]
      · have e : v = Q.n := by omega
        rw [e, isv_n (by omega), Bool.false_and]
    · unfold F_371
      rw [e, Option.bind_some]
      rfl
theorem mc_sub (m : Int32) (k : Nat) : m + nI k - m = nI k := by
  rw [Int32.add_comm, Int32.add_sub_cancel]
theorem t503 (P : PRE w W g y a Q H S r) {v : Nat} (hv : v ≤ Q.n) (hs : sm Q.pl Q.n ≤ 5988) : Res w W g y Q H S (J_385_0_j503 W g y (nI v)) (fun W1 => J_386_0_j195 W1 (nI v)) := by
  obtain ⟨p1, p2, p3, p4, p5, p6, p7, p8, p9⟩ := id P
  have hG := p8.2.1.1
  have hC := p8.2.1.2.1
  have hn := hG.2.1
  have h9 := p8.2.1.2.2.2
  obtain ⟨m1, m2⟩ := yMany' p1
  have cal : ∀ V : Wd, ∀ q, F_372 V (nI v) = some q → J_386_0_j195 V (nI v) = some q := fun V q e => by
    unfold J_386_0_j195
    rw [e, Option.bind_some]
  by_cases hvn : v = Q.n
  · refine res_e P (due := 3294967295) (j := 2) ?_ (cIndex1 p8 (x := nI v) (by rw [hvn]; exact isv_n (by omega)) 0).2.2.1 (fun W2 e => cal W _ ?_) (fun V => (cod V).1)
    · unfold J_385_0_j503
      rw [m1, Option.bind_some, if_neg (fun z => z (by rw [hvn]))]
    · unfold F_372
      rw [e, Option.bind_some]
      rfl
  · have hvl : v < Q.n := by omega
    have hvI : ¬ nI v = nI Q.n := by rw [nI_eq (by omega) (by omega)]; exact hvn
    obtain ⟨X, w1, e1, y1, z1⟩ := yReach p1 hG hC hvl (fun u hu => by have := h9 u (by omega); omega) (by omega)
    have hc : ∀ V, CI Q H S r V → V.top < 800000 → _ := fun V c ht => cReach c ht hvl
    cases hh : hold Q.n Q.E v Q.pl with
    | true =>
      have yX := y1.yd hn hvl
      -- refused: the reason told, the yard's own answer known
      obtain ⟨p1', p2', p3', p4', p5', p6', p7', p8', p9'⟩ := id P
      have yT := cl_lt p4
      have q4 : X.cl y = some (.inr (6, [.int r])) := by rw [z1.2.1 y yT (by rw [p5]; exact p6)]; exact p4
      obtain ⟨X', e, c, q, rc⟩ := h301 q4 6
      have cX : CI Q H S r X' := (z1.2.2.1.tr q.sm).ci p8
      have tX : X'.top < 800000 := by
        have q1 := z1.2.2.2.1.1
        have q2 := z1.2.2.2.1.2.2
        have q3 : X'.top = X.top := q.2.2.2.2.2.2.2.2.2.1
        omega
      have k := hc X' cX tX
      rw [if_pos hh] at k
      obtain ⟨W2, e2, c2, k2, i2, o2⟩ := k
      refine ⟨3294967293, X', w1, W2, Q, 6, ?_, z1.kn.tr q.kn, cal X' _ ?_, k2, .inl ⟨(cod W2).2.2, c2⟩, by rw [k2]; exact c, (z1.1 y yT).trans p5, (z1.2.2.2.1.tr (q.co.tr o2)).up (by omega) (by decide), i2.trans ((z1.2.2.1.tr q.sm).2.2.2.2.1)⟩
      · unfold J_385_0_j503
        rw [m1, Option.bind_some, if_pos hvI, m2, Option.bind_some, e1, Option.bind_some]
        dsimp only
        rw [hh, if_neg (by decide), rc, Option.bind_some, e, Option.bind_some]
      · unfold F_372
        rw [e2, Option.bind_some]
        rfl
    | false =>
      have yi : YI W w g v (Q.wm Q.pl Q.mc) 1 X w1 := ⟨true, ⟨fun _ => y1, y1.yd hn hvl⟩, z1.up (by decide) (by decide)⟩
      have htr : tr_ (sm Q.pl Q.n) ≤ 2088 + sm Q.pl Q.n := by unfold tr_; omega
      obtain ⟨V, w2, k', e2, yi2, hk'⟩ := y385 (Q := Q) hG hC hvl Q.mc (sm Q.pl Q.n) 200000 1 Q.pl Q.mc X w1 (Nat.le_refl _) (by omega) yi h9 hh (by omega)
      obtain ⟨b2, yb2, fz2⟩ := yi2
      obtain ⟨e', p', st', kn', ff', kf', x1, -⟩ := id (y1.yd hn hvl)
      obtain ⟨e'', p'', st'', kn'', ff'', kf'', x2, -⟩ := id yb2.2
      obtain ⟨rl1, rl2⟩ := rch_le (p := Q.pl) hG hC hvl (sm Q.pl Q.n) Q.pl h9 hh
      obtain ⟨R, hR⟩ : ∃ R, rch Q.n Q.E v (sm Q.pl Q.n) Q.pl = R := ⟨_, rfl⟩
      rw [hR] at yb2 rl1 rl2 x2
      have hcost : (if b2 = true then 8 + k' else k') ≤ 2137 + sm Q.pl Q.n ∧ (if b2 = true then 32810 + 6 * k' else 6 * k') ≤ 82700 := by
        split <;> omega
      refine res_zz P (X := V) (w1 := w2) (due := nI R.2) (Q' := Q.wm R.1 (Q.mc + nI R.2)) (G := F_89 V (nI v)) ?_ fz2 yb2.2 (fun c => ?_) (fun W2 q => cal V _ ?_) (fun V => h381n (by omega)) rfl ?_ hcost.1 hcost.2
      · have g1 : X.gI g 7 3 = some Q.mc := yMoves x1
        have g2 : V.gI g 7 3 = some (Q.mc + nI R.2) := yMoves x2
        unfold J_385_0_j503
        rw [m1, Option.bind_some, if_pos hvI, m2, Option.bind_some, e1, Option.bind_some]
        dsimp only
        rw [hh, if_pos (by decide), g1, Option.bind_some, e2, Option.bind_some, g2, Option.bind_some, mc_sub]
      · have k := hc V c (by
          have q1 := fz2.2.2.2.1.1
          have q2 := fz2.2.2.2.1.2.2
          omega)
        rw [if_neg (by rw [hh]; decide), hR] at k
        exact k
      · unfold F_372
        rw [q, Option.bind_some]
        rfl
      · show sm R.1 Q.n ≤ sm Q.pl Q.n + 99
        omega
end RES3
