/-! ===== A DRAWN CALL: pebbles put, taken, moved; a target reached ===== -/
section RES2
variable {w : Nat → Nat} {W : Wd} {g y a : Nat} {Q : Ps} {H : List Ps} {S : Option Ps} {r : Int32}
theorem in99_n {m : Nat} (hm : m < 2 ^ 31) : (1 ≤ nI m ∧ nI m ≤ 99) ↔ (1 ≤ m ∧ m ≤ 99) := by
  rw [show (1 : Int32) = nI 1 from rfl, show (99 : Int32) = nI 99 from rfl, nI_leI (by decide) hm, nI_leI hm (by decide)]
theorem sv_le {x hi : Nat} (h : 1 ≤ hi) : sv x 1 hi ≤ hi + 1 := by
  have := Nat.mod_lt x (show 0 < hi - 1 + 1 by omega)
  unfold sv
  split
  · omega
  · split <;> omega
theorem sm_upl {pl : Nat → Nat} {v c n : Nat} (hv : v < n) : sm (upl pl v c) n + pl v = sm pl n + c := by
  have e := sm_upd (f := pl) (g := upl pl v c) hv (fun u _ hu => if_neg hu)
  have e2 : upl pl v c v = c := if_pos rfl
  rw [e2] at e
  omega
theorem t271 (P : PRE w W g y a Q H S r) {v x hi : Nat} (hv : v ≤ Q.n) (hx : x < 2 ^ 31) (h1 : 1 ≤ hi) (h99 : hi ≤ 99) : Res w W g y Q H S (J_385_0_j271 W g (nI v) (nI hi) 1 (nI x)) (fun W1 => J_386_0_j153 W1 (nI hi) 1 (nI x) (nI v)) := by
  obtain ⟨p1, p2, p3, p4, p5, p6, p7, p8, p9⟩ := id P
  have hn := p8.2.1.1.2.1
  have hm := sv_le (x := x) h1
  have e383 : ∀ V : Wd, F_383 V (nI x) 1 (nI hi) = some (nI (sv x 1 hi)) := fun V => h383 hx h1 (by omega)
  obtain ⟨m1, m2⟩ := yMany' p1
  generalize sv x 1 hi = m at *
  have cal : ∀ V : Wd, ∀ o, F_370 V (nI v) (nI m) = some o → J_386_0_j153 V (nI hi) 1 (nI x) (nI v) = some o := fun V o e => by
    unfold J_386_0_j153
    rw [e383, Option.bind_some, e, Option.bind_some]
  by_cases hvn : v = Q.n
  · refine res_e P (due := 3294967295) (j := 2) ?_ (cIndex1 p8 (x := nI v) (by rw [hvn]; exact isv_n (by omega)) (nI m)).1 (fun W2 e => cal W _ ?_) (fun V => (cod V).1)
    · unfold J_385_0_j271
      rw [e383, Option.bind_some, m1, Option.bind_some, if_neg (fun z => z (by rw [hvn]))]
    · unfold F_370
      rw [e, Option.bind_some]
      rfl
  · have hvl : v < Q.n := by omega
    have hvI : ¬ nI v = nI Q.n := by rw [nI_eq (by omega) (by omega)]; exact hvn
    have h9 := p8.2.1.2.2.2 v (by omega)
    obtain ⟨p, X, q1, q2, q3, q4, q5, q6⟩ := yPile p1 hn hvl (Q.pl v + m)
    have pre : J_385_0_j271 W g (nI v) (nI hi) 1 (nI x) = (if bI (decide (1 ≤ nI m ∧ nI m ≤ 99)) = 0 then J_385_0_j315 W else if nI (Q.pl v + m) ≤ 999 then (X.gR g 7 2).bind fun v91 => (X.aI v91 (nI v)).bind fun v93 => some (v93, X) else J_385_0_j315 W) := by
      unfold J_385_0_j271
      rw [e383, Option.bind_some, m1, Option.bind_some, if_pos hvI, h384, Option.bind_some, q1, Option.bind_some, q2, Option.bind_some, nI_add, Option.bind_some, q2, Option.bind_some, nI_add, q3, Option.bind_some]
    by_cases hm9 : 1 ≤ m ∧ m ≤ 99
    · rw [decide_eq_true ((in99_n (by omega)).2 hm9), if_neg (by decide)] at pre
      have hc := cPut p8 (show W.top < 900000 by omega) hvl hm9.1 hm9.2
      by_cases h999 : Q.pl v + m ≤ 999
      · rw [if_pos h999] at hc
        rw [if_pos (show nI (Q.pl v + m) ≤ 999 from nI_le (b := 999) h999 (by decide)), q4, Option.bind_some] at pre
        obtain ⟨e, p', st, kn, ff, kf, z1, -, -, ⟨-, f, z4, z5⟩, -⟩ := id q5
        have ep : p' = p := by
          have := yPebs z1
          rw [q4] at this
          cases this
          rfl
        subst ep
        have rd : X.aI p' (nI v) = some (nI (Q.pl v + m)) := by
          have q := z5 v hvl
          have e2 : (Q.wm (upl Q.pl v (Q.pl v + m)) Q.mc).pl v = Q.pl v + m := if_pos rfl
          rw [e2] at q
          have z4' : X.cl p' = some (.inl (0, Q.n, .inl f)) := z4
          rw [← q]
          exact aI_ z4' hvl (by omega)
        rw [rd, Option.bind_some] at pre
        have hs := sm_upl (pl := Q.pl) (c := Q.pl v + m) hvl
        refine res_z P (due := nI (Q.pl v + m)) (G := F_86 X (nI v) (nI m)) pre q6.fz q5 (fun c => ?_) (fun W2 e => cal X _ ?_) (fun V => h381n (by omega)) rfl ?_ (by decide) (by decide)
        · have hc2 := cPut c (show X.top < 900000 by have := q6.2.2.2; omega) hvl hm9.1 hm9.2
          rw [if_pos h999] at hc2
          exact hc2
        · unfold F_370
          rw [e, Option.bind_some]
          rfl
        · show sm (upl Q.pl v (Q.pl v + m)) Q.n ≤ sm Q.pl Q.n + 99
          omega
      · rw [if_neg h999] at hc
        rw [if_neg (show ¬ nI (Q.pl v + m) ≤ 999 from nI_ge (a := 999) (by omega) (by omega))] at pre
        refine res_e P (due := 3294967294) (j := 1) pre hc (fun W2 e => cal W _ ?_) (fun V => (cod V).2.1)
        unfold F_370
        rw [e, Option.bind_some]
        rfl
    · rw [decide_eq_false (fun z => hm9 ((in99_n (by omega)).1 z)), if_pos (by decide)] at pre
      refine res_e P (due := 3294967294) (j := 1) pre (cPut1 p8 hvl (z := nI m) (fun z => hm9 ((in99_n (by omega)).1 z))) (fun W2 e => cal W _ ?_) (fun V => (cod V).2.1)
      unfold F_370
      rw [e, Option.bind_some]
      rfl
theorem t255 (P : PRE w W g y a Q H S r) {v x : Nat} (hv : v ≤ Q.n) (hx : x < 2 ^ 31) : Res w W g y Q H S (J_385_0_j255 W g (nI x) (nI v)) (fun W1 => J_386_0_j134 W1 (nI x) (nI v)) := by
  have e4 : nI x - nI x / 4 * 4 = nI (x % 4) := pk_rem (a := x) (d := 4) hx (by decide) (by decide)
  by_cases h : x % 4 = 0
  · have k := t271 P hv hx (hi := 99) (by decide) (by decide)
    have e1 : J_385_0_j255 W g (nI x) (nI v) = J_385_0_j271 W g (nI v) (nI 99) 1 (nI x) := by
      unfold J_385_0_j255
      rw [e4, if_neg (fun z => z (by rw [h]; rfl))]
      rfl
    have e2 : (fun W1 => J_386_0_j134 W1 (nI x) (nI v)) = (fun W1 => J_386_0_j153 W1 (nI 99) 1 (nI x) (nI v)) := funext fun W1 => by
      unfold J_386_0_j134
      rw [e4, if_neg (fun z => z (by rw [h]; rfl))]
      rfl
    rw [e1, e2]
    exact k
  · have k := t271 P hv hx (hi := 5) (by decide) (by decide)
    have e1 : J_385_0_j255 W g (nI x) (nI v) = J_385_0_j271 W g (nI v) (nI 5) 1 (nI x) := by
      unfold J_385_0_j255
      rw [e4, if_pos (nI_ne0 (by omega) (by omega))]
      rfl
    have e2 : (fun W1 => J_386_0_j134 W1 (nI x) (nI v)) = (fun W1 => J_386_0_j153 W1 (nI 5) 1 (nI x) (nI v)) := funext fun W1 => by
      unfold J_386_0_j134
      rw [e4, if_pos (nI_ne0 (by omega) (by omega))]
      rfl
    rw [e1, e2]
    exact k
theorem t354 (P : PRE w W g y a Q H S r) {v x hi : Nat} (hv : v ≤ Q.n) (hx : x < 2 ^ 31) (h1 : 1 ≤ hi) (h99 : hi ≤ 99) : Res w W g y Q H S (J_385_0_j354 W g y (nI v) (nI hi) 1 (nI x)) (fun W1 => J_386_0_j179 W1 (nI hi) 1 (nI x) (nI v)) := by
  obtain ⟨p1, p2, p3, p4, p5, p6, p7, p8, p9⟩ := id P
  have hn := p8.2.1.1.2.1
  have hm := sv_le (x := x) h1
  have e383 : ∀ V : Wd, F_383 V (nI x) 1 (nI hi) = some (nI (sv x 1 hi)) := fun V => h383 hx h1 (by omega)
  obtain ⟨m1, m2⟩ := yMany' p1
  generalize sv x 1 hi = m at *
  have cal : ∀ V : Wd, ∀ o, F_375 V (nI v) (nI m) = some o → J_386_0_j179 V (nI hi) 1 (nI x) (nI v) = some o := fun V o e => by
    unfold J_386_0_j179
    rw [e383, Option.bind_some, e, Option.bind_some]
  by_cases hvn : v = Q.n
  · refine res_e P (due := 3294967295) (j := 2) ?_ (cIndex1 p8 (x := nI v) (by rw [hvn]; exact isv_n (by omega)) (nI m)).2.1 (fun W2 e => cal W _ ?_) (fun V => (cod V).1)
    · unfold J_385_0_j354
      rw [e383, Option.bind_some, m1, Option.bind_some, if_neg (fun z => z (by rw [hvn]))]
    · unfold F_375
      rw [e, Option.bind_some]
      rfl
  · have hvl : v < Q.n := by omega
    have hvI : ¬ nI v = nI Q.n := by rw [nI_eq (by omega) (by omega)]; exact hvn
    have h9 := p8.2.1.2.2.2 v (by omega)
    obtain ⟨p, X, q1, q2, q3, q4, q5, q6⟩ := yPile p1 hn hvl (Q.pl v - m)
    have pre : J_385_0_j354 W g y (nI v) (nI hi) 1 (nI x) = (if ¬ bI (decide (1 ≤ nI m ∧ nI m ≤ 99)) = 0 then (if nI m ≤ nI (Q.pl v) then (W.sI p (nI v) (nI (Q.pl v) - nI m)).bind fun B116 => (B116.gR g 7 2).bind fun v118 => (B116.aI v118 (nI v)).bind fun v120 => some (v120, B116) else (W.rc y 6).bind fun _ => (F_301 W y 5).bind fun (v124, B125) => some (v124, B125)) else some (3294967294, W)) := by
      unfold J_385_0_j354
      rw [e383, Option.bind_some, m1, Option.bind_some, if_pos hvI, h384, Option.bind_some, q1, Option.bind_some, q2, Option.bind_some, Option.bind_some, q2, Option.bind_some]
    by_cases hm9 : 1 ≤ m ∧ m ≤ 99
    · rw [decide_eq_true ((in99_n (by omega)).2 hm9), if_pos (by decide)] at pre
      have hc : ∀ V, CI Q H S r V → V.top < 900000 → _ := fun V c ht => cTake c ht hvl hm9.1 hm9.2
      by_cases hle : m ≤ Q.pl v
      · rw [if_pos (nI_le hle (by omega)), pk_sub hle, q3, Option.bind_some, q4, Option.bind_some] at pre
        obtain ⟨e, p', st, kn, ff, kf, z1, -, -, ⟨-, f, z4, z5⟩, -⟩ := id q5
        have ep : p' = p := by
          have := yPebs z1
          rw [q4] at this
          cases this
          rfl
        subst ep
        have rd : X.aI p' (nI v) = some (nI (Q.pl v - m)) := by
          have q := z5 v hvl
          have e2 : (Q.wm (upl Q.pl v (Q.pl v - m)) Q.mc).pl v = Q.pl v - m := if_pos rfl
          rw [e2] at q
          have z4' : X.cl p' = some (.inl (0, Q.n, .inl f)) := z4
          rw [← q]
          exact aI_ z4' hvl (by omega)
        rw [rd, Option.bind_some] at pre
        have hs := sm_upl (pl := Q.pl) (c := Q.pl v - m) hvl
        refine res_z P (due := nI (Q.pl v - m)) (G := F_87 X (nI v) (nI m)) pre q6.fz q5 (fun c => ?_) (fun W2 e => cal X _ ?_) (fun V => h381n (by omega)) rfl ?_ (by decide) (by decide)
        · have hc2 := hc X c (by have := q6.2.2.2; omega)
          rw [if_pos hle] at hc2
          exact hc2
        · unfold F_375
          rw [e, Option.bind_some]
          rfl
        · show sm (upl Q.pl v (Q.pl v - m)) Q.n ≤ sm Q.pl Q.n + 99
          omega
      · rw [if_neg (nI_ge (by omega) (by omega))] at pre
        refine res_r P (X := W) (w1 := w) (k := 5) (G := fun X => F_87 X (nI v) (nI m)) ((Fz.rf w g W).up (by decide) (by decide)) (fun X' q rc => ?_) (fun X' c htX => ?_) (fun X' W2 q => cal X' _ ?_)
        · rw [pre, rc, Option.bind_some, q, Option.bind_some]
        · have hc2 := hc X' c (by omega)
          rw [if_neg hle] at hc2
          exact hc2
        · unfold F_375
          rw [q, Option.bind_some]
          rfl
    · rw [decide_eq_false (fun z => hm9 ((in99_n (by omega)).1 z)), if_neg (by decide)] at pre
      refine res_e P (due := 3294967294) (j := 1) pre (cTake1 p8 hvl (z := nI m) (fun z => hm9 ((in99_n (by omega)).1 z))) (fun W2 e => cal W _ ?_) (fun V => (cod V).2.1)
      unfold F_375
      rw [e, Option.bind_some]
      rfl
theorem t338 (P : PRE w W g y a Q H S r) {v x : Nat} (hv : v ≤ Q.n) (hx : x < 2 ^ 31) : Res w W g y Q H S (J_385_0_j338 W g y (nI x) (nI v)) (fun W1 => J_386_0_j160 W1 (nI x) (nI v)) := by
  have e4 : nI x - nI x / 4 * 4 = nI (x % 4) := pk_rem (a := x) (d := 4) hx (by decide) (by decide)
  by_cases h : x % 4 = 0
  · have k := t354 P hv hx (hi := 99) (by decide) (by decide)
    have e1 : J_385_0_j338 W g y (nI x) (nI v) = J_385_0_j354 W g y (nI v) (nI 99) 1 (nI x) := by
      unfold J_385_0_j338
      rw [e4, if_neg (fun z => z (by rw [h]; rfl))]
      rfl
    have e2 : (fun W1 => J_386_0_j160 W1 (nI x) (nI v)) = (fun W1 => J_386_0_j179 W1 (nI 99) 1 (nI x) (nI v)) := funext fun W1 => by
      unfold J_386_0_j160
      rw [e4, if_neg (fun z => z (by rw [h]; rfl))]
      rfl
    rw [e1, e2]
    exact k
  · have k := t354 P hv hx (hi := 3) (by decide) (by decide)
    have e1 : J_385_0_j338 W g y (nI x) (nI v) = J_385_0_j354 W g y (nI v) (nI 3) 1 (nI x) := by
      unfold J_385_0_j338
      rw [e4, if_pos (nI_ne0 (by omega) (by omega))]
      rfl
    have e2 : (fun W1 => J_386_0_j160 W1 (nI x) (nI v)) = (fun W1 => J_386_0_j179 W1 (nI 3) 1 (nI x) (nI v)) := funext fun W1 => by
      unfold J_386_0_j160
      rw [e4, if_pos (nI_ne0 (by omega) (by omega))]
      rfl
    rw [e1, e2]
    exact k
end RES2
