/-! ===== THE YARD'S TEXT: what it is ===== -/
def xEd (v o : Nat) : List Nat := txl 24 ++ (dgt v ++ ([32] ++ dgt o))
def xPi (v k : Nat) : List Nat := txl 25 ++ (dgt v ++ ([32] ++ dgt k))
def xWt (v q k : Nat) : List Nat := [32] ++ (dgt v ++ ([32] ++ (dgt q ++ ([32] ++ dgt k))))
def xEs (E v : Nat) : Nat → List Nat
  | 0 => []
  | o + 1 => xEs E v o ++ (if ad E v o = true then xEd v o else [])
def xEA (E : Nat) : Nat → List Nat
  | 0 => []
  | v + 1 => xEA E v ++ xEs E v v
def xPA (pl : Nat → Nat) : Nat → List Nat
  | 0 => []
  | v + 1 => xPA pl v ++ (if pl v = 0 then [] else xPi v (pl v))
def xW1 (v k : Nat) : Option Nat → List Nat
  | none => []
  | some q => xWt v q k
def xWs (wt : Nat → Nat) (pr : Nat → Option Nat) : Nat → List Nat
  | 0 => []
  | v + 1 => xWs wt pr v ++ xW1 v (wt v) (pr v)
def xSA (Q : Ps) : Nat → List Nat
  | 0 => []
  | k + 1 => xSA Q k ++ (txl 26 ++ (dgt (Q.tg k) ++ xWs (Q.wt k) (Q.pr k) Q.n))
def xT (Q : Ps) : List Nat := txl 23 ++ (dgt Q.n ++ (xEA Q.E Q.n ++ (xPA Q.pl Q.n ++ xSA Q Q.sc)))
theorem dgt_len {k : Nat} : (dgt k).length ≤ 2 ∧ (k < 10 → (dgt k).length = 1) := by
  unfold dgt
  split
  · next h => exact ⟨by show 1 ≤ 2; decide, fun _ => rfl⟩
  · next h => exact ⟨by show 2 ≤ 2; decide, fun z => absurd z h⟩
theorem txl_len : (txl 23).length = 9 ∧ (txl 24).length = 6 ∧ (txl 25).length = 8 ∧ (txl 26).length = 10 := by decide +kernel
theorem xEd_len {v o : Nat} (hv : v < 10) (ho : o < 10) : (xEd v o).length = 9 := by
  unfold xEd
  simp only [List.length_append, List.length_cons, List.length_nil]
  rw [txl_len.2.1, dgt_len.2 hv, dgt_len.2 ho]
theorem xPi_len {v k : Nat} (hv : v < 10) (hk : k < 10) : (xPi v k).length = 11 := by
  unfold xPi
  simp only [List.length_append, List.length_cons, List.length_nil]
  rw [txl_len.2.2.1, dgt_len.2 hv, dgt_len.2 hk]
theorem xWt_len {v q k : Nat} (hv : v < 10) (hq : q < 10) : (xWt v q k).length ≤ 7 := by
  have := (dgt_len (k := k)).1
  unfold xWt
  simp only [List.length_append, List.length_cons, List.length_nil]
  rw [dgt_len.2 hv, dgt_len.2 hq]
  omega
theorem xEs_len {E v : Nat} (hv : v < 10) : ∀ o, o ≤ 10 → (xEs E v o).length ≤ 9 * o
  | 0, _ => Nat.zero_le _
  | o + 1, ho => by
    have ih := xEs_len (E := E) hv o (by omega)
    rw [xEs, List.length_append]
    split
    · rw [xEd_len hv (by omega)]; omega
    · show _ + 0 ≤ _; omega
theorem xEA_len {E : Nat} : ∀ v, v ≤ 6 → (xEA E v).length ≤ 9 * sm (fun u => u) v
  | 0, _ => Nat.zero_le _
  | v + 1, hv => by
    have ih := xEA_len (E := E) v (by omega)
    have h := xEs_len (E := E) (v := v) (by omega) v (by omega)
    rw [xEA, List.length_append, sm]
    omega
theorem xPA_len {pl : Nat → Nat} (h8 : ∀ v, pl v ≤ 8) : ∀ v, v ≤ 6 → (xPA pl v).length ≤ 11 * v
  | 0, _ => Nat.zero_le _
  | v + 1, hv => by
    have ih := xPA_len h8 v (by omega)
    have := h8 v
    rw [xPA, List.length_append]
    split
    · show _ + 0 ≤ _; omega
    · rw [xPi_len (by omega) (by omega)]; omega
theorem xWs_len {wt : Nat → Nat} {pr : Nat → Option Nat} (hq : ∀ v q, pr v = some q → q < 6) : ∀ v, v ≤ 6 → (xWs wt pr v).length ≤ 7 * v
  | 0, _ => Nat.zero_le _
  | v + 1, hv => by
    have ih := xWs_len (wt := wt) hq v (by omega)
    rw [xWs, List.length_append]
    cases h : pr v with
    | none => show _ + 0 ≤ _; omega
    | some q =>
      have := hq v q h
      have := xWt_len (v := v) (q := q) (k := wt v) (by omega) (by omega)
      show _ + (xWt v q (wt v)).length ≤ _
      omega
theorem xSA_len {Q : Ps} (hT : TP Q) : ∀ k, k ≤ Q.sc → (xSA Q k).length ≤ 53 * k
  | 0, _ => Nat.zero_le _
  | k + 1, hk => by
    have ih := xSA_len hT k (by omega)
    have hn := hT.1.1.2.1
    have hs := hT.2.2.2.2 k (by omega)
    have htg := (hT.1.2.2.1.2 k (by omega)).1
    have := xWs_len (wt := Q.wt k) (pr := Q.pr k) (fun v q h => by have := (hs.2 v).2.1 q h; omega) Q.n hn
    rw [xSA]
    simp only [List.length_append]
    rw [txl_len.2.2.2, dgt_len.2 (by omega)]
    omega
theorem sm6 {n : Nat} (h : n ≤ 6) : sm (fun u => u) n ≤ 15 := by
  match n, h with
  | 0, _ => decide
  | 1, _ => decide
  | 2, _ => decide
  | 3, _ => decide
  | 4, _ => decide
  | 5, _ => decide
  | 6, _ => decide
section TEXT
variable {T0 sb : Nat} {V W : Wd} {l : List Nat} {w : Nat → Nat} {a : Nat} {Q : Ps}
/-- a text, a number, a blank, a number -/
theorem sbFour (h : SS T0 V.cl sb l) {t v o : Nat} (ht27 : t < 27) (hv : v < 100) (ho : o < 100) (hlen : l.length + (txl t).length ≤ 390) (hT : T0 ≤ V.top) (ht : V.top < 870000) :
    ∃ V1 V2 V3 V4, F_333 V sb (am_SB + 10 + 2 * t) = some (sb, V1) ∧ V1.rc sb 9 = some () ∧ F_335 V1 sb (nI v) = some (sb, V2) ∧ V2.rc sb 9 = some () ∧ F_334 V2 sb 32 = some (sb, V3) ∧ V3.rc sb 9 = some () ∧ F_335 V3 sb (nI o) = some (sb, V4) ∧ SS T0 V4.cl sb (l ++ (txl t ++ (dgt v ++ ([32] ++ dgt o)))) ∧ Ap T0 sb 4 3208 V V4 ∧ (∀ b, b < T0 → V3.cl b = V.cl b) := by
  obtain ⟨V1, e1, s1, a1⟩ := sbStr (l2 := txl t) h (a := am_SB + 10 + 2 * t) (fun V' _ => tv_tx V' ht27) (by omega) hT (by omega)
  have p1 := a1.gz.top
  have q1 := a1.2.2.2.2
  have hd := (dgt_len (k := v)).1
  obtain ⟨V2, e2, s2, a2⟩ := sbInt s1 hv (by rw [List.length_append]; omega) (by omega) (by omega)
  have p2 := a2.gz.top
  have q2 := a2.2.2.2.2
  obtain ⟨V3, e3, s3, a3⟩ := sbChr s2 (by rw [List.length_append, List.length_append]; omega) (by omega) (by omega)
  have p3 := a3.gz.top
  have q3 := a3.2.2.2.2
  obtain ⟨V4, e4, s4, a4⟩ := sbInt s3 ho (by rw [List.length_append, List.length_append, List.length_append]; show l.length + (txl t).length + (dgt v).length + 1 + 2 ≤ 400; omega) (by omega) (by omega)
  refine ⟨V1, V2, V3, V4, e1, s1.rc.1, e2, s2.rc.1, e3, s3.rc.1, e4, ?_, a1.tr (a2.tr (a3.tr a4)), fun b hb => (a3.1 b hb).trans ((a2.1 b hb).trans (a1.1 b hb))⟩
  rw [List.append_assoc, List.append_assoc, List.append_assoc] at s4
  exact s4
/-- where the yard is read while its text is built -/
def YW (T0 : Nat) (w : Nat → Nat) (a : Nat) (W : Wd) (Q : Ps) : Prop := ∀ V : Wd, (∀ b, b < T0 → V.cl b = W.cl b) → Yd w V.cl a Q
theorem r310_42 (hy : YW T0 w a W Q) (hn : Q.n ≤ 6) (h0 : ∀ b, b < T0 → V.cl b = W.cl b) (h : SS T0 V.cl sb l) {v : Nat} (hv : v < Q.n) (hlen : l.length + 9 * v ≤ 380) (hT : T0 ≤ V.top) (ht : V.top < 860000) : ∃ V', lw (G_310_42 a sb (nI v)) 200000 (0, V) = some V' ∧ SS T0 V'.cl sb (l ++ xEs Q.E v v) ∧ Ap T0 sb (4 * v) (3208 * v) V V' := by
  refine lw_for (n := v) (fun o s => ∃ X, s = (nI o, X) ∧ SS T0 X.cl sb (l ++ xEs Q.E v o) ∧ Ap T0 sb (4 * o) (3208 * o) V X) ?_ ?_ ⟨V, rfl, by rw [show xEs Q.E v 0 = [] from rfl, List.append_nil]; exact h, Ap.rf T0 sb V⟩ (by omega)
  · rintro o s ho ⟨X, rfl, hs, hX⟩
    left
    obtain ⟨e, p, st, kn, ff, kf, h1, -, h3, -⟩ := hy X fun b hb => (hX.1 b hb).trans (h0 b hb)
    obtain ⟨r, f, e1, -, -, e2⟩ := YM.row h3 hn hv
    have xl := xEs_len (E := Q.E) (v := v) (by omega) o (by omega)
    have tX := hX.gz.top
    have pre : G_310_42 a sb (nI v) (nI o, X) = (if bI (ad Q.E v o) = 0 then J_310_42_j78 X a sb (nI v) (nI o) else (X.rc sb 9).bind fun _ => (F_333 X sb (am_SB + 10 + 2 * 24)).bind fun (a42, B43) => (B43.rc a42 9).bind fun _ => (F_335 B43 a42 (nI v)).bind fun (a46, B47) => (B47.rc a46 9).bind fun _ => (F_334 B47 a46 32).bind fun (a50, B51) => (B51.rc a50 9).bind fun _ => (F_335 B51 a50 (nI o)).bind fun (a54, B55) => J_310_42_j78 B55 a sb (nI v) (nI o)) := by
      unfold G_310_42
      dsimp only
      rw [if_neg (nI_ge ho (by omega)), yEdge h1, Option.bind_some, e1, Option.bind_some, e2 o (by omega), Option.bind_some]
    cases had : ad Q.E v o with
    | false =>
      refine ⟨(nI (o + 1), X), ?_, X, rfl, ?_, hX.up (by omega) (by omega)⟩
      · rw [pre, had, if_pos (by decide)]
        unfold J_310_42_j78
        rw [nI_1]
      · rw [xEs, had, if_neg (by decide), List.append_nil]
        exact hs
    | true =>
      obtain ⟨V1, V2, V3, V4, c1, c2, c3, c4, c5, c6, c7, c8, c9, -⟩ := sbFour hs (t := 24) (v := v) (o := o) (by decide) (by omega) (by omega) (by rw [List.length_append, txl_len.2.1]; omega) (by have := hX.2.2.2.2; omega) (by omega)
      refine ⟨(nI (o + 1), V4), ?_, V4, rfl, ?_, (hX.tr c9).up (by omega) (by omega)⟩
      · rw [pre, had, if_neg (by decide), hs.rc.1, Option.bind_some, c1, Option.bind_some]
        dsimp only
        rw [c2, Option.bind_some, c3, Option.bind_some]
        dsimp only
        rw [c4, Option.bind_some, c5, Option.bind_some]
        dsimp only
        rw [c6, Option.bind_some, c7, Option.bind_some]
        unfold J_310_42_j78
        dsimp only
        rw [nI_1]
      · rw [xEs, had, if_pos rfl, ← List.append_assoc]
        exact c8
  · rintro s ⟨X, rfl, hs, hX⟩
    refine ⟨X, ?_, hs, hX⟩
    unfold G_310_42
    dsimp only
    rw [if_pos (nI_le (Nat.le_refl _) (by omega))]
theorem r310_32 (hy : YW T0 w a W Q) (hn : Q.n ≤ 6) (h0 : ∀ b, b < T0 → V.cl b = W.cl b) (h : SS T0 V.cl sb l) (hlen : l.length ≤ 20) (hT : T0 ≤ V.top) (ht : V.top < 850000) : ∃ V', lw (G_310_32 a sb) 200000 (0, V) = some V' ∧ SS T0 V'.cl sb (l ++ xEA Q.E Q.n) ∧ Ap T0 sb 144 115488 V V' := by
  have main : ∃ V', lw (G_310_32 a sb) 200000 (0, V) = some V' ∧ SS T0 V'.cl sb (l ++ xEA Q.E Q.n) ∧ Ap T0 sb (24 * Q.n) (19248 * Q.n) V V' := by
    refine lw_for (n := Q.n) (fun v s => ∃ X, s = (nI v, X) ∧ SS T0 X.cl sb (l ++ xEA Q.E v) ∧ Ap T0 sb (24 * v) (19248 * v) V X) ?_ ?_ ⟨V, rfl, by rw [show xEA Q.E 0 = [] from rfl, List.append_nil]; exact h, Ap.rf T0 sb V⟩ (by omega)
    · rintro v s hv ⟨X, rfl, hs, hX⟩
      left
      have x0 := fun b hb => (hX.1 b hb).trans (h0 b hb)
      obtain ⟨m1, -⟩ := yMany' (hy X x0)
      have xl := xEA_len (E := Q.E) v (by omega)
      have s15 := sm6 (n := v) (by omega)
      have tX := hX.gz.top
      obtain ⟨Y, e, sY, aY⟩ := r310_42 hy hn x0 hs hv (by rw [List.length_append]; omega) (by have := hX.2.2.2.2; omega) (by omega)
      refine ⟨(nI (v + 1), Y), ?_, Y, rfl, ?_, (hX.tr aY).up (by omega) (by omega)⟩
      · unfold G_310_32
        dsimp only
        rw [m1, Option.bind_some, if_neg (nI_ge hv (by omega)), e, Option.bind_some, nI_1]
      · rw [xEA, ← List.append_assoc]
        exact sY
    · rintro s ⟨X, rfl, hs, hX⟩
      obtain ⟨m1, -⟩ := yMany' (hy X fun b hb => (hX.1 b hb).trans (h0 b hb))
      refine ⟨X, ?_, hs, hX⟩
      unfold G_310_32
      dsimp only
      rw [m1, Option.bind_some, if_pos (nI_le (Nat.le_refl _) (by omega))]
  obtain ⟨V', e, s, k⟩ := main
  exact ⟨V', e, s, k.up (by omega) (by omega)⟩
theorem r310_92 (hy : YW T0 w a W Q) (hn : Q.n ≤ 6) (h8 : ∀ v, Q.pl v ≤ 8) (h0 : ∀ b, b < T0 → V.cl b = W.cl b) (h : SS T0 V.cl sb l) (hlen : l.length ≤ 155) (hT : T0 ≤ V.top) (ht : V.top < 850000) : ∃ V', lw (G_310_92 a sb) 200000 (0, V) = some V' ∧ SS T0 V'.cl sb (l ++ xPA Q.pl Q.n) ∧ Ap T0 sb 24 19248 V V' := by
  have main : ∃ V', lw (G_310_92 a sb) 200000 (0, V) = some V' ∧ SS T0 V'.cl sb (l ++ xPA Q.pl Q.n) ∧ Ap T0 sb (4 * Q.n) (3208 * Q.n) V V' := by
    refine lw_for (n := Q.n) (fun v s => ∃ X, s = (nI v, X) ∧ SS T0 X.cl sb (l ++ xPA Q.pl v) ∧ Ap T0 sb (4 * v) (3208 * v) V X) ?_ ?_ ⟨V, rfl, by rw [show xPA Q.pl 0 = [] from rfl, List.append_nil]; exact h, Ap.rf T0 sb V⟩ (by omega)
    · rintro v s hv ⟨X, rfl, hs, hX⟩
      left
      have x0 := fun b hb => (hX.1 b hb).trans (h0 b hb)
      obtain ⟨m1, -⟩ := yMany' (hy X x0)
      obtain ⟨e, p, st, kn, ff, kf, h1, -, -, ⟨-, f, h4, h5⟩, -⟩ := hy X x0
      have xl := xPA_len h8 v (by omega)
      have hp := h8 v
      have tX := hX.gz.top
      by_cases hz : Q.pl v = 0
      · refine ⟨(nI (v + 1), X), ?_, X, rfl, ?_, hX.up (by omega) (by omega)⟩
        · unfold G_310_92
          dsimp only
          rw [m1, Option.bind_some, if_neg (nI_ge hv (by omega)), yPebs h1, Option.bind_some, aI_ h4 hv (by omega), Option.bind_some, h5 v hv, hz, if_pos (by decide)]
          unfold J_310_92_j134
          rw [nI_1]
        · rw [xPA, if_pos hz, List.append_nil]
          exact hs
      · obtain ⟨V1, V2, V3, V4, c1, c2, c3, c4, c5, c6, c7, c8, c9, c10⟩ := sbFour hs (t := 25) (v := v) (o := Q.pl v) (by decide) (by omega) (by omega) (by rw [List.length_append, txl_len.2.2.1]; omega) (by have := hX.2.2.2.2; omega) (by omega)
        obtain ⟨e', p', st', kn', ff', kf', h1', -, -, ⟨-, f', h4', h5'⟩, -⟩ := hy V3 fun b hb => (c10 b hb).trans (x0 b hb)
        refine ⟨(nI (v + 1), V4), ?_, V4, rfl, ?_, (hX.tr c9).up (by omega) (by omega)⟩
        · unfold G_310_92
          dsimp only
          rw [m1, Option.bind_some, if_neg (nI_ge hv (by omega)), yPebs h1, Option.bind_some, aI_ h4 hv (by omega), Option.bind_some, h5 v hv, if_neg (nI_nle (by omega) (by omega)), hs.rc.1, Option.bind_some, c1, Option.bind_some]
          dsimp only
          rw [c2, Option.bind_some, c3, Option.bind_some]
          dsimp only
          rw [c4, Option.bind_some, c5, Option.bind_some]
          dsimp only
          rw [yPebs h1', Option.bind_some, aI_ h4' hv (by omega), Option.bind_some, h5' v hv, c6, Option.bind_some, c7, Option.bind_some]
          unfold J_310_92_j134
          dsimp only
          rw [nI_1]
        · rw [xPA, if_neg hz, ← List.append_assoc]
          exact c8
    · rintro s ⟨X, rfl, hs, hX⟩
      obtain ⟨m1, -⟩ := yMany' (hy X fun b hb => (hX.1 b hb).trans (h0 b hb))
      refine ⟨X, ?_, hs, hX⟩
      unfold G_310_92
      dsimp only
      rw [m1, Option.bind_some, if_pos (nI_le (Nat.le_refl _) (by omega))]
  obtain ⟨V', e, s, k⟩ := main
  exact ⟨V', e, s, k.up (by omega) (by omega)⟩
theorem r310_183 (hy : YW T0 w a W Q) (hn : Q.n ≤ 6) (h0 : ∀ b, b < T0 → V.cl b = W.cl b) (h : SS T0 V.cl sb l) {it s : Nat} {wt : Nat → Nat} {pr : Nat → Option Nat} {t : Nat} (hs : YA w W.cl a s Q.n t wt pr) (hsT : s < T0) (hS : SR Q.n t wt pr) (hlen : l.length ≤ 350) (hT : T0 ≤ V.top) (ht : V.top < 850000) : ∃ V', lw (G_310_183 a sb it s) 200000 (0, V) = some V' ∧ SS T0 V'.cl sb (l ++ xWs wt pr Q.n) ∧ Ap T0 sb 36 28872 V V' := by
  obtain ⟨-, f, s1, s2, s3⟩ := hs
  have main : ∃ V', lw (G_310_183 a sb it s) 200000 (0, V) = some V' ∧ SS T0 V'.cl sb (l ++ xWs wt pr Q.n) ∧ Ap T0 sb (6 * Q.n) (4812 * Q.n) V V' := by
    refine lw_for (n := Q.n) (fun v st => ∃ X, st = (nI v, X) ∧ SS T0 X.cl sb (l ++ xWs wt pr v) ∧ Ap T0 sb (6 * v) (4812 * v) V X) ?_ ?_ ⟨V, rfl, by rw [show xWs wt pr 0 = [] from rfl, List.append_nil]; exact h, Ap.rf T0 sb V⟩ (by omega)
    · rintro v st hv ⟨X, rfl, hss, hX⟩
      left
      have x0 := fun b hb => (hX.1 b hb).trans (h0 b hb)
      obtain ⟨m1, -⟩ := yMany' (hy X x0)
      have rd7 : ∀ Y : Wd, (∀ b, b < T0 → Y.cl b = W.cl b) → Y.aI s (7 + nI v) = some (pI (pr v)) ∧ Y.aI s (1 + nI v) = some (nI (wt v)) := fun Y hY => by
        have q : Y.cl s = some (.inl (0, 13, .inl f)) := by rw [hY s hsT]; exact s1
        refine ⟨?_, ?_⟩
        · rw [z7, nI_add, aI_ q (by omega) (by decide), (s3 v hv).2]
        · rw [z1, nI_add, aI_ q (by omega) (by decide), (s3 v hv).1]
      have xl := xWs_len (wt := wt) (pr := pr) (fun v q h => by have := (hS.2 v).2.1 q h; omega) v (by omega)
      have tX := hX.gz.top
      have hTX := hX.2.2.2.2
      cases hp : pr v with
      | none =>
        refine ⟨(nI (v + 1), X), ?_, X, rfl, ?_, hX.up (by omega) (by omega)⟩
        · unfold G_310_183
          dsimp only
          rw [m1, Option.bind_some, if_neg (nI_ge hv (by omega)), (rd7 X x0).1, Option.bind_some, hp, if_pos (show pI none = -1 from rfl)]
          unfold J_310_183_j244
          rw [nI_1]
        · rw [xWs, hp]
          show SS T0 X.cl sb (l ++ (xWs wt pr v ++ []))
          rw [List.append_nil]
          exact hss
      | some q =>
        have hq := (hS.2 v).2.1 q hp
        have hw := (hS.2 v).1
        have hl0 : (l ++ xWs wt pr v).length ≤ 385 := by rw [List.length_append]; omega
        obtain ⟨V1, e1, u1, a1⟩ := sbChr hss (by omega) (by omega) (by omega)
        have p1 := a1.gz.top
        have q1 := a1.2.2.2.2
        obtain ⟨V2, e2, u2, a2⟩ := sbInt u1 (k := v) (by omega) (by rw [List.length_append]; show _ + 1 + 2 ≤ 400; omega) (by omega) (by omega)
        have p2 := a2.gz.top
        have q2 := a2.2.2.2.2
        have dv := (dgt_len (k := v)).1
        have dq := (dgt_len (k := q)).1
        obtain ⟨V3, e3, u3, a3⟩ := sbChr u2 (by rw [List.length_append, List.length_append]; show _ + 1 + _ + 1 ≤ 400; omega) (by omega) (by omega)
        have p3 := a3.gz.top
        have q3 := a3.2.2.2.2
        obtain ⟨V4, e4, u4, a4⟩ := sbInt u3 (k := q) (by omega) (by rw [List.length_append, List.length_append, List.length_append]; show _ + 1 + _ + 1 + 2 ≤ 400; omega) (by omega) (by omega)
        have p4 := a4.gz.top
        have q4 := a4.2.2.2.2
        obtain ⟨V5, e5, u5, a5⟩ := sbChr u4 (by rw [List.length_append, List.length_append, List.length_append, List.length_append]; show _ + 1 + _ + 1 + _ + 1 ≤ 400; omega) (by omega) (by omega)
        have p5 := a5.gz.top
        have q5 := a5.2.2.2.2
        obtain ⟨V6, e6, u6, a6⟩ := sbInt u5 (k := wt v) (by omega) (by rw [List.length_append, List.length_append, List.length_append, List.length_append, List.length_append]; show _ + 1 + _ + 1 + _ + 1 + 2 ≤ 400; omega) (by omega) (by omega)
        have b3 : ∀ b, b < T0 → V3.cl b = W.cl b := fun b hb => (a3.1 b hb).trans ((a2.1 b hb).trans ((a1.1 b hb).trans (x0 b hb)))
        have b5 : ∀ b, b < T0 → V5.cl b = W.cl b := fun b hb => (a5.1 b hb).trans ((a4.1 b hb).trans (b3 b hb))
        refine ⟨(nI (v + 1), V6), ?_, V6, rfl, ?_, (hX.tr (a1.tr (a2.tr (a3.tr (a4.tr (a5.tr a6)))))).up (by omega) (by omega)⟩
        · have r3 := (rd7 V3 b3).1
          rw [hp] at r3
          have r3 : V3.aI s (7 + nI v) = some (nI q) := r3
          unfold G_310_183
          dsimp only
          rw [m1, Option.bind_some, if_neg (nI_ge hv (by omega)), (rd7 X x0).1, Option.bind_some, hp, if_neg (show ¬ pI (some q) = -1 from nI_m1 (by omega)), hss.rc.1, Option.bind_some, e1, Option.bind_some]
          dsimp only
          rw [u1.rc.1, Option.bind_some, e2, Option.bind_some]
          dsimp only
          rw [u2.rc.1, Option.bind_some, e3, Option.bind_some]
          dsimp only
          rw [r3, Option.bind_some, u3.rc.1, Option.bind_some, e4, Option.bind_some]
          dsimp only
          rw [u4.rc.1, Option.bind_some, e5, Option.bind_some]
          dsimp only
          rw [(rd7 V5 b5).2, Option.bind_some, u5.rc.1, Option.bind_some, e6, Option.bind_some]
          unfold J_310_183_j244
          dsimp only
          rw [nI_1]
        · rw [xWs, hp]
          rw [List.append_assoc, List.append_assoc, List.append_assoc, List.append_assoc, List.append_assoc, List.append_assoc] at u6
          exact u6
    · rintro st ⟨X, rfl, hss, hX⟩
      obtain ⟨m1, -⟩ := yMany' (hy X fun b hb => (hX.1 b hb).trans (h0 b hb))
      refine ⟨X, ?_, hss, hX⟩
      unfold G_310_183
      dsimp only
      rw [m1, Option.bind_some, if_pos (nI_le (Nat.le_refl _) (by omega))]
  obtain ⟨V', e, s, k⟩ := main
  exact ⟨V', e, s, k.up (by omega) (by omega)⟩
end TEXT
