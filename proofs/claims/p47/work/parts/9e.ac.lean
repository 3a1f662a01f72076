/-! ===== A DRAWN CALL: what the law's act says, and what the class answers ===== -/
/-- before: the yard g, its copy a, the law's reason at y, the class -/
def PRE (w : Nat → Nat) (W : Wd) (g y a : Nat) (Q : Ps) (H : List Ps) (S : Option Ps) (r : Int32) : Prop := Yd w W.cl g Q ∧ Yd w W.cl a Q ∧ ¬ a = g ∧ W.cl y = some (.inr (6, [.int r])) ∧ w y = y ∧ ¬ y = g ∧ ¬ y = a ∧ CI Q H S r W ∧ W.top < 700000
/-- after: the same answer; refused, or done on both sides -/
def Res (w : Nat → Nat) (W : Wd) (g y : Nat) (Q : Ps) (H : List Ps) (S : Option Ps) (F : Option (Int32 × Wd)) (C : Wd → Option (Int32 × Wd)) : Prop := ∃ (due : Int32) (W1 : Wd) (w1 : Nat → Nat) (W2 : Wd) (Q' : Ps) (r' : Int32), F = some (due, W1) ∧ Kn g y w w1 W W1 ∧ C W1 = some (due, W2) ∧ W2.cl = W1.cl ∧ ((F_381 W2 due = some 1 ∧ CI Q H S r' W2) ∨ (F_381 W2 due = some 0 ∧ Yd w1 W2.cl g Q' ∧ CI Q' (hpush H Q) S r' W2 ∧ Q'.n = Q.n ∧ sm Q'.pl Q'.n ≤ sm Q.pl Q.n + 99)) ∧ W2.cl y = some (.inr (6, [.int r'])) ∧ w1 y = y ∧ Co (2150 + sm Q.pl Q.n) 84000 W W2 ∧ W2.inp = W.inp
section RES
variable {w : Nat → Nat} {W : Wd} {g y a : Nat} {Q : Ps} {H : List Ps} {S : Option Ps} {r : Int32} {F : Option (Int32 × Wd)} {C : Wd → Option (Int32 × Wd)}
theorem cod (V : Wd) : F_381 V 3294967295 = some 1 ∧ F_381 V 3294967294 = some 1 ∧ F_381 V 3294967293 = some 1 := ⟨h381e 4 (by decide), h381e 3 (by decide), h381e 2 (by decide)⟩
/-- refused before anything is written -/
theorem res_e (P : PRE w W g y a Q H S r) {due : Int32} {j : Nat} {G : Option ((Int32 ⊕ Nat) × Wd)} (hF : F = some (due, W)) (hO : Ou W G (.inr j) Q H S r) (hC : ∀ W2, G = some (.inr j, W2) → C W = some (due, W2)) (hd : ∀ V, F_381 V due = some 1) : Res w W g y Q H S F C := by
  obtain ⟨p1, p2, p3, p4, p5, p6, p7, p8, p9⟩ := P
  obtain ⟨W2, e, c, k, i, o⟩ := hO
  exact ⟨due, W, w, W2, Q, r, hF, Kn.rf g y w W, hC W2 e, k, .inl ⟨hd W2, c⟩, by rw [k]; exact p4, p5, o.up (by omega) (by decide), i⟩
/-- refused with a reason -/
theorem res_r (P : PRE w W g y a Q H S r) {X : Wd} {w1 : Nat → Nat} {k : Int32} {G : Wd → Option ((Int32 ⊕ Nat) × Wd)} (hz : Fz w w1 g 7 42 W X) (hF : ∀ X', F_301 X y k = some (3294967293, X') → X.rc y 6 = some () → F = some (3294967293, X')) (hO : ∀ X', CI Q H S r X' → X'.top < 750000 → Ou X' (G X') (.inr 0) Q H S k) (hC : ∀ X' W2, G X' = some (.inr 0, W2) → C X' = some (3294967293, W2)) : Res w W g y Q H S F C := by
  obtain ⟨p1, p2, p3, p4, p5, p6, p7, p8, p9⟩ := P
  have yT := cl_lt p4
  have p4' : X.cl y = some (.inr (6, [.int r])) := by rw [hz.2.1 y yT (by rw [p5]; exact p6)]; exact p4
  obtain ⟨X', e, c, q, rc⟩ := h301 p4' k
  have cX : CI Q H S r X' := (hz.2.2.1.tr q.sm).ci p8
  obtain ⟨W2, e2, c2, k2, i2, o2⟩ := hO X' cX (by have q1 := hz.2.2.2.1.1; have q2 := hz.2.2.2.1.2.2; have q3 : X'.top = X.top := q.2.2.2.2.2.2.2.2.2.1; omega)
  have wy : w1 y = y := (hz.1 y yT).trans p5
  refine ⟨3294967293, X', w1, W2, Q, k, hF X' e rc, hz.kn.tr q.kn, hC X' W2 e2, k2, .inl ⟨(cod W2).2.2, c2⟩, by rw [k2]; exact c, wy, (hz.2.2.2.1.tr (q.co.tr o2)).up (by omega) (by decide), ?_⟩
  exact i2.trans ((hz.2.2.1.tr q.sm).2.2.2.2.1)
/-- done -/
theorem res_k (P : PRE w W g y a Q H S r) {X : Wd} {w1 : Nat → Nat} {due : Int32} {Q' : Ps} {G : Option ((Int32 ⊕ Nat) × Wd)} {c k : Nat} (hF : F = some (due, X)) (hz : Kn g y w w1 W X) (hs : Sm W X) (ho : Co c k W X) (hy : X.cl y = W.cl y ∧ w1 y = w y) (h1 : Yd w1 X.cl g Q') (hO : CI Q H S r X → Ou X G (.inl due) Q' (hpush H Q) S r) (hC : ∀ W2, G = some (.inl due, W2) → C X = some (due, W2)) (hd : ∀ V, F_381 V due = some 0) (hn : Q'.n = Q.n) (hsm : sm Q'.pl Q'.n ≤ sm Q.pl Q.n + 99) (hc : c ≤ 2137 + sm Q.pl Q.n) (hk : k ≤ 82700) : Res w W g y Q H S F C := by
  obtain ⟨p1, p2, p3, p4, p5, p6, p7, p8, p9⟩ := P
  obtain ⟨W2, e2, c2, k2, i2, o2⟩ := hO (hs.ci p8)
  exact ⟨due, X, w1, W2, Q', r, hF, hz, hC W2 e2, k2, .inr ⟨hd W2, by rw [k2]; exact h1, c2, hn, hsm⟩, by rw [k2, hy.1]; exact p4, hy.2.trans p5, (ho.tr o2).up (by omega) (by omega), i2.trans hs.2.2.2.2.1⟩
theorem res_zz (P : PRE w W g y a Q H S r) {X : Wd} {w1 : Nat → Nat} {due : Int32} {Q' : Ps} {G : Option ((Int32 ⊕ Nat) × Wd)} {c k : Nat} (hF : F = some (due, X)) (hz : Fz w w1 g c k W X) (h1 : Yd w1 X.cl g Q') (hO : CI Q H S r X → Ou X G (.inl due) Q' (hpush H Q) S r) (hC : ∀ W2, G = some (.inl due, W2) → C X = some (due, W2)) (hd : ∀ V, F_381 V due = some 0) (hn : Q'.n = Q.n) (hsm : sm Q'.pl Q'.n ≤ sm Q.pl Q.n + 99) (hc : c ≤ 2137 + sm Q.pl Q.n) (hk : k ≤ 82700) : Res w W g y Q H S F C := by
  have yT := cl_lt P.2.2.2.1
  exact res_k P hF hz.kn hz.2.2.1 hz.2.2.2.1 ⟨hz.2.1 y yT (by rw [P.2.2.2.2.1]; exact P.2.2.2.2.2.1), hz.1 y yT⟩ h1 hO hC hd hn hsm hc hk
theorem res_z (P : PRE w W g y a Q H S r) {X : Wd} {w1 : Nat → Nat} {due : Int32} {Q' : Ps} {G : Option ((Int32 ⊕ Nat) × Wd)} {c k : Nat} (hF : F = some (due, X)) (hz : Fz w w1 g c k W X) (h1 : Yd w1 X.cl g Q') (hO : CI Q H S r X → Ou X G (.inl due) Q' (hpush H Q) S r) (hC : ∀ W2, G = some (.inl due, W2) → C X = some (due, W2)) (hd : ∀ V, F_381 V due = some 0) (hn : Q'.n = Q.n) (hsm : sm Q'.pl Q'.n ≤ sm Q.pl Q.n + 99) (hc : c ≤ 2137) (hk : k ≤ 82700) : Res w W g y Q H S F C := by
  have yT := cl_lt P.2.2.2.1
  exact res_k P hF hz.kn hz.2.2.1 hz.2.2.2.1 ⟨hz.2.1 y yT (by rw [P.2.2.2.2.1]; exact P.2.2.2.2.2.1), hz.1 y yT⟩ h1 hO hC hd hn hsm (by omega) hk
theorem isv_n {n : Nat} (hn : n < 2 ^ 31) : isv n (nI n) = false := decide_eq_false fun z => absurd z.2 (nI_nlt (Nat.le_refl n) hn)
theorem ec_36 {n E : Nat} (hn : n ≤ 6) : ec n E < 2 ^ 31 := by
  have := ec_le (n := n) (E := E) hn
  unfold ec
  omega
/-- an edge laid -/
theorem t140 (P : PRE w W g y a Q H S r) {v o : Nat} (hv : v ≤ Q.n) (ho : o ≤ Q.n) : Res w W g y Q H S (J_385_0_j140 W g y (nI v) (nI o) (bI (decide (v < Q.n ∧ o < Q.n)))) (fun W1 => F_373 W1 (nI v) (nI o)) := by
  obtain ⟨p1, p2, p3, p4, p5, p6, p7, p8, p9⟩ := id P
  have hG := p8.2.1.1
  have hC := p8.2.1.2.1
  have hn := hG.2.1
  by_cases are : v < Q.n ∧ o < Q.n
  · rw [decide_eq_true are]
    by_cases hvo : v = o
    · subst hvo
      refine res_e P (due := 3294967294) (j := 1) ?_ (cSame p8 are.1).1 (fun W2 e => ?_) (fun V => (cod V).2.1)
      · unfold J_385_0_j140
        rw [if_pos (by decide), if_neg (fun z => z rfl)]
      · show F_373 W _ _ = _
        unfold F_373
        rw [e, Option.bind_some]
        rfl
    · have hne : ¬ nI v = nI o := by rw [nI_eq (by omega) (by omega)]; exact hvo
      obtain ⟨e, p, st, kn, ff, kf, h1, -, h3, -⟩ := id p1
      obtain ⟨rr, f, e1, -, -, e2⟩ := YM.row h3 hn are.1
      have pre : J_385_0_j140 W g y (nI v) (nI o) (bI true) = (if bI (ad Q.E v o) = 0 then (W.rc g 7).bind fun _ => (F_304 W g (nI v) (nI o)).bind fun B31 => (B31.rc g 7).bind fun _ => (F_305 B31 g).bind fun v34 => some (v34, B31) else (W.rc y 6).bind fun _ => (F_301 W y 1).bind fun (v37, B38) => some (v37, B38)) := by
        unfold J_385_0_j140
        rw [if_pos (by decide), if_pos hne, yEdge h1, Option.bind_some, e1, Option.bind_some, e2 o are.2, Option.bind_some]
      cases had : ad Q.E v o with
      | true =>
        refine res_r P (X := W) (w1 := w) (k := 1) (G := fun X => F_84 X (nI v) (nI o)) ((Fz.rf w g W).up (by decide) (by decide)) (fun X' q rc => ?_) (fun X' c _ => cAdd1 c are.1 are.2 hvo had) (fun X' W2 q => ?_)
        · rw [pre, had, if_neg (by decide), rc, Option.bind_some, q, Option.bind_some]
        · show F_373 X' _ _ = _
          unfold F_373
          rw [q, Option.bind_some]
          rfl
      | false =>
        obtain ⟨X, q1, q2, q3⟩ := yTurn p1 hG are.1 are.2 hvo
        rw [te_ae had] at q2
        have hG2 : Gr Q.n (ae Q.E v o) := hG.ae are.1 are.2 hvo
        refine res_z P (X := X) (w1 := w) (due := nI (ec Q.n (ae Q.E v o))) (G := F_84 X (nI v) (nI o)) ?_ q3.fz q2 (fun c => cAdd c (by have := q3.2.2.2; omega) are.1 are.2 hvo had) (fun W2 q => ?_) (fun V => h381n (ec_36 hn)) rfl (Nat.le_add_right _ _) (by decide) (by decide)
        · rw [pre, had, if_pos (by decide), rc_ h1, Option.bind_some, q1, Option.bind_some, (yMany' q2).2, Option.bind_some, yEdges q2 hn, Option.bind_some, ye_ec hG2]
          rfl
        · show F_373 X _ _ = _
          unfold F_373
          rw [q, Option.bind_some]
          rfl
  · rw [decide_eq_false are]
    refine res_e P (due := 3294967295) (j := 2) ?_ (cIndex2 p8 (x := nI v) (z := nI o) ?_).1 (fun W2 e => ?_) (fun V => (cod V).1)
    · unfold J_385_0_j140
      rw [if_neg (by decide)]
    · by_cases q : v < Q.n
      · have e : o = Q.n := by omega
        rw [e, isv_n (by omega), Bool.and_false]
      · have e : v = Q.n := by omega
        rw [e, isv_n (by omega), Bool.false_and]
    · show F_373 W _ _ = _
      unfold F_373
      rw [e, Option.bind_some]
      rfl
theorem te_re {E u v : Nat} (h : ad E u v = true) : te E u v = re E u v := by
  unfold te
  rw [if_pos h]
/-- an edge taken -/
theorem t190 (P : PRE w W g y a Q H S r) {v o : Nat} (hv : v ≤ Q.n) (ho : o ≤ Q.n) : Res w W g y Q H S (J_385_0_j190 W g y (nI v) (nI o) (bI (decide (v < Q.n ∧ o < Q.n)))) (fun W1 => F_374 W1 (nI v) (nI o)) := by
  obtain ⟨p1, p2, p3, p4, p5, p6, p7, p8, p9⟩ := id P
  have hG := p8.2.1.1
  have hC := p8.2.1.2.1
  have hn := hG.2.1
  by_cases are : v < Q.n ∧ o < Q.n
  · rw [decide_eq_true are]
    by_cases hvo : v = o
    · subst hvo
      refine res_e P (due := 3294967294) (j := 1) ?_ (cSame p8 are.1).2 (fun W2 e => ?_) (fun V => (cod V).2.1)
      · unfold J_385_0_j190
        rw [if_pos (by decide), if_neg (fun z => z rfl)]
      · show F_374 W _ _ = _
        unfold F_374
        rw [e, Option.bind_some]
        rfl
    · have hne : ¬ nI v = nI o := by rw [nI_eq (by omega) (by omega)]; exact hvo
      obtain ⟨e, p, st, kn, ff, kf, h1, -, h3, -⟩ := id p1
      obtain ⟨rr, f, e1, -, -, e2⟩ := YM.row h3 hn are.1
      have pre : J_385_0_j190 W g y (nI v) (nI o) (bI true) = (if ¬ bI (ad Q.E v o) = 0 then (W.rc g 7).bind fun _ => (F_304 W g (nI v) (nI o)).bind fun B52 => (B52.rc g 7).bind fun _ => (F_307 B52 g).bind fun (v55, B56) => if v55 = 0 then (B56.rc y 6).bind fun _ => (F_301 B56 y 3).bind fun (v60, B61) => J_385_0_j254 B61 v60 else (B56.rc g 7).bind fun _ => (F_305 B56 g).bind fun v64 => J_385_0_j254 B56 v64 else (W.rc y 6).bind fun _ => (F_301 W y 2).bind fun (v67, B68) => some (v67, B68)) := by
        unfold J_385_0_j190
        rw [if_pos (by decide), if_pos hne, yEdge h1, Option.bind_some, e1, Option.bind_some, e2 o are.2, Option.bind_some]
      cases had : ad Q.E v o with
      | false =>
        refine res_r P (X := W) (w1 := w) (k := 2) (G := fun X => F_85 X (nI v) (nI o)) ((Fz.rf w g W).up (by decide) (by decide)) (fun X' q rc => ?_) (fun X' c _ => cRem2 c are.1 are.2 hvo had) (fun X' W2 q => ?_)
        · rw [pre, had, if_neg (by decide), rc, Option.bind_some, q, Option.bind_some]
        · show F_374 X' _ _ = _
          unfold F_374
          rw [q, Option.bind_some]
          rfl
      | true =>
        obtain ⟨X, q1, q2, q3⟩ := yTurn p1 hG are.1 are.2 hvo
        rw [te_re had] at q2
        have hG2 : Gr Q.n (re Q.E v o) := hG.re (by omega) (by omega)
        have tX : X.top = W.top := q3.2.2.2
        obtain ⟨X2, w2, t, c1, c2, c3, c4⟩ := yConn q2 hG2 (by omega)
        rcases c2 with ⟨rfl, c2⟩ | ⟨rfl, c2⟩
        · refine res_z P (X := X2) (w1 := w2) (due := nI (ec Q.n (re Q.E v o))) (G := F_85 X2 (nI v) (nI o)) ?_ (q3.fz.tr c4) c3 (fun c => cRem c (by have q1 := c4.2.2.2.1.1; have q2 := c4.2.2.2.1.2.2; omega) are.1 are.2 hvo had c2) (fun W2 q => ?_) (fun V => h381n (ec_36 hn)) rfl (Nat.le_add_right _ _) (by decide) (by decide)
          · rw [pre, had, if_pos (by decide), rc_ h1, Option.bind_some, q1, Option.bind_some, (yMany' q2).2, Option.bind_some, c1, Option.bind_some]
            dsimp only
            rw [if_neg (by decide), (yMany' c3).2, Option.bind_some, yEdges c3 hn, Option.bind_some, ye_ec hG2]
            rfl
          · show F_374 X2 _ _ = _
            unfold F_374
            rw [q, Option.bind_some]
            rfl
        · refine res_r P (X := X2) (w1 := w2) (k := 3) (G := fun X => F_85 X (nI v) (nI o)) ((q3.fz.tr c4).up (by decide) (by decide)) (fun X' q rc => ?_) (fun X' c _ => cRem3 c are.1 are.2 hvo had c2) (fun X' W2 q => ?_)
          · rw [pre, had, if_pos (by decide), rc_ h1, Option.bind_some, q1, Option.bind_some, (yMany' q2).2, Option.bind_some, c1, Option.bind_some]
            dsimp only
            rw [if_pos rfl, rc, Option.bind_some, q, Option.bind_some]
            rfl
          · show F_374 X' _ _ = _
            unfold F_374
            rw [q, Option.bind_some]
            rfl
  · rw [decide_eq_false are]
    refine res_e P (due := 3294967295) (j := 2) ?_ (cIndex2 p8 (x := nI v) (z := nI o) ?_).2 (fun W2 e => ?_) (fun V => (cod V).1)
    · unfold J_385_0_j190
      rw [if_neg (by decide)]
    · by_cases q : v < Q.n
      · have e : o = Q.n := by omega
        rw [e, isv_n (by omega), Bool.and_false]
      · have e : v = Q.n := by omega
        rw [e, isv_n (by omega), Bool.false_and]
    · show F_374 W _ _ = _
      unfold F_374
      rw [e, Option.bind_some]
      rfl
end RES
