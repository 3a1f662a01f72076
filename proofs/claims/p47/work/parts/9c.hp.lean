/-! ===== THE LAW'S HELPERS; THE YARD REACHES A TARGET ===== -/
/-- one of some, now and then the number behind all -/
def on (x m : Nat) : Nat := if x % 29 = 0 ∨ m = 0 then m else x % m
theorem on_le (x m : Nat) : on x m ≤ m := by
  unfold on
  split
  · exact Nat.le_refl _
  · next h => exact Nat.le_of_lt (Nat.mod_lt _ (by omega))
def sv (x lo hi : Nat) : Nat := if x % 31 = 0 then hi + 1 else if x % 37 = 0 then lo - 1 else lo + x % (hi - lo + 1)
section HELP
variable {W : Wd}
theorem h382 {x m : Nat} (hx : x < 2 ^ 31) (hm : m < 2 ^ 31) : F_382 W (nI x) (nI m) = some (nI (on x m)) := by
  have e29 : nI x - nI x / 29 * 29 = nI (x % 29) := pk_rem (a := x) (d := 29) hx (by decide) (by decide)
  unfold F_382 J_382_0_j11 J_382_0_j18 on
  rw [e29]
  by_cases h : x % 29 = 0
  · rw [if_pos (by rw [h]; rfl), if_pos (.inl h)]
  · rw [if_neg (nI_ne0 (by omega) (by omega))]
    by_cases h0 : m = 0
    · rw [if_neg (fun z => z (by rw [h0]; rfl)), if_pos (.inr h0)]
    · rw [if_pos (nI_ne0 (by omega) hm), if_neg (nI_ne0 (by omega) hm), if_neg (fun z => z.elim h h0), pk_rem hx (by omega) hm]
theorem h383 {x hi : Nat} (hx : x < 2 ^ 31) (h0 : 1 ≤ hi) (hm : hi < 2 ^ 30) : F_383 W (nI x) 1 (nI hi) = some (nI (sv x 1 hi)) := by
  have e31 : nI x - nI x / 31 * 31 = nI (x % 31) := pk_rem (a := x) (d := 31) hx (by decide) (by decide)
  have e37 : nI x - nI x / 37 * 37 = nI (x % 37) := pk_rem (a := x) (d := 37) hx (by decide) (by decide)
  unfold F_383 J_383_0_j35 sv
  rw [e31]
  by_cases h : x % 31 = 0
  · rw [if_neg (fun z => z (by rw [h]; rfl)), if_pos h, nI_1]
  · rw [if_pos (nI_ne0 (by omega) (by omega)), if_neg h, e37]
    by_cases h2 : x % 37 = 0
    · rw [if_neg (fun z => z (by rw [h2]; rfl)), if_pos h2]
      rfl
    · rw [if_pos (nI_ne0 (by omega) (by omega)), if_neg h2, z1, pk_sub h0, nI_add, if_neg (nI_ne0 (by omega) (by omega)), pk_rem hx (by omega) (by omega), nI_add]
/-- a weight that is drawn -/
theorem h383w {x : Nat} (hx : x < 2 ^ 31) : ∃ z, F_383 W (nI x) 0 64 = some z ∧ ((∃ a, a ≤ 64 ∧ z = nI a) ∨ ¬ (0 ≤ z ∧ z ≤ 64)) := by
  have e31 : nI x - nI x / 31 * 31 = nI (x % 31) := pk_rem (a := x) (d := 31) hx (by decide) (by decide)
  have e37 : nI x - nI x / 37 * 37 = nI (x % 37) := pk_rem (a := x) (d := 37) hx (by decide) (by decide)
  have e65 : nI x - nI x / nI 65 * nI 65 = nI (x % 65) := pk_rem (a := x) (d := 65) hx (by decide) (by decide)
  have z65 : ((64 : Int32) - 0) + 1 = nI 65 := by decide
  have zn65 : ¬ nI 65 = 0 := by decide
  unfold F_383 J_383_0_j35
  rw [e31]
  by_cases h : x % 31 = 0
  · exact ⟨64 + 1, if_neg (fun z => z (by rw [h]; rfl)), .inr (by decide)⟩
  · rw [if_pos (nI_ne0 (by omega) (by omega)), e37]
    by_cases h2 : x % 37 = 0
    · exact ⟨0 - 1, if_neg (fun z => z (by rw [h2]; rfl)), .inr (by decide)⟩
    · rw [if_pos (nI_ne0 (by omega) (by omega)), z65, if_neg zn65, e65]
      refine ⟨nI (0 + x % 65), by rw [z0, nI_add], .inl ⟨0 + x % 65, by omega, rfl⟩⟩
theorem h384 {z lo hi : Int32} : F_384 W z lo hi = some (bI (decide (lo ≤ z ∧ z ≤ hi))) := by
  unfold F_384 J_384_0_j14 J_384_0_j15
  by_cases h1 : z < lo
  · rw [if_pos h1, if_pos (.inl rfl), Option.bind_some, decide_eq_false (fun q => (fa_of_lt h1).2.1 q.1)]
    rfl
  · have h1' := fa_of_nlt h1
    rw [if_neg h1]
    by_cases h2 : hi < z
    · rw [if_pos h2, if_pos (.inl rfl), Option.bind_some, decide_eq_false (fun q => (fa_of_lt h2).2.1 q.2)]
      rfl
    · rw [if_neg h2, if_pos (.inr rfl), Option.bind_some, decide_eq_true ⟨h1', fa_of_nlt h2⟩]
      rfl
theorem h381e : ∀ k, k < 5 → F_381 W (nI (3294967291 + k)) = some 1 := fun k hk => by
  have key : ∀ k, k < 5 → ¬ (3294967295 : Int32) < nI (3294967291 + k) ∧ ¬ nI (3294967291 + k) < (3294967291 : Int32) := by decide +kernel
  obtain ⟨h1, h2⟩ := key k hk
  unfold F_381 J_381_0_j17
  rw [if_neg h1, if_neg h2, if_pos (.inr rfl), Option.bind_some]
theorem h381n {k : Nat} (hk : k < 2 ^ 31) : F_381 W (nI k) = some 0 := by
  have h : (3294967295 : Int32) < nI k := by
    rw [Int32.lt_iff_toInt_lt, nI_toInt hk]
    have : (3294967295 : Int32).toInt = -1000000001 := by decide
    omega
  unfold F_381 J_381_0_j16 J_381_0_j17
  rw [if_pos h, if_pos (.inl rfl), Option.bind_some]
end HELP
section REACH
variable {w w0 : Nat → Nat} {W W0 V : Wd} {a t k : Nat} {Q : Ps} {b : Bool}
/-- a move, the yard looking at t as before -/
theorem yMoveT (h : YB b w W.cl a Q t) (hn : Q.n ≤ 6) (ht : t < Q.n) {u v : Nat} (hu : u < Q.n) (hv : v < Q.n) (hne : ¬ u = v) (h2p : 2 ≤ Q.pl u) : ∃ W', F_315 W a (nI u) (nI v) = some W' ∧ YB b w W'.cl a (Q.wm (pmv Q.pl u v) (Q.mc + 1)) t ∧ Fy w a W W' := by
  obtain ⟨p, W1, W2, e1, e2, e3, e4, g2, g3, y2, f2⟩ := yMoveB h hn ht hu hv hne
  have run : ∀ W3, W2.gI a 7 3 = some Q.mc → W2.pv a 7 3 (.int (Q.mc + 1)) = some W3 → F_315 W a (nI u) (nI v) = some W3 := fun W3 q1 q2 => by
    unfold F_315
    rw [e1, Option.bind_some, e2, Option.bind_some, show (2 : Int32) = nI 2 from rfl, pk_sub h2p, e3, Option.bind_some, e4, Option.bind_some, g2, Option.bind_some, nI_1, g3, Option.bind_some, q1, Option.bind_some, q2, Option.bind_some]
  cases b with
  | false =>
    obtain ⟨e, q, st, kn, ff, kf, h1, h2, h3, h4, h5, h6⟩ := y2.2
    obtain ⟨W3, e5, k5⟩ := pv_ (v := .int (Q.mc + 1)) (i := 3) h1 ⟨show 3 < 8 by decide, rfl, rfl, nofun⟩
    have kk := k5.kq (w := w) (a := a) h1
    have h4' : YP w W3.cl a q Q.n (pmv Q.pl u v) := h4.ext kk (show ¬ 0 = 27 by decide) hn
    exact ⟨W3, run W3 (yMoves h1) e5, ⟨(fun z => absurd z (by decide)), e, q, st, kn, ff, kf, by rw [k5.1]; exact upm_s, h2, YM.ext h3 kk (show ¬ 6 = 27 by decide) (show ¬ 1 = 27 by decide), h4', h5.ext kk (show ¬ 30 = 27 by decide) (show ¬ 5 = 27 by decide) (show ¬ 13 = 27 by decide), h6.ext kk (show ¬ 2 = 27 by decide) (show ¬ 0 = 27 by decide)⟩, f2.tr (k5.fy h2)⟩
  | true =>
    obtain ⟨e, q, st, kn, ff, h1, h2, h3, h4, h5, h6, h7, h8, kl, kc, fc, h9, h10, h11, h12⟩ := y2.1 rfl
    obtain ⟨W3, e5, k5⟩ := pv_ (v := .int (Q.mc + 1)) (i := 3) h1 ⟨show 3 < 8 by decide, rfl, rfl, nofun⟩
    have kk := k5.kq (w := w) (a := a) h1
    have h4' : YP w W3.cl a q Q.n (pmv Q.pl u v) := h4.ext kk (show ¬ 0 = 27 by decide) hn
    have yt : Yt w W3.cl a (Q.wm (pmv Q.pl u v) (Q.mc + 1)) t := ⟨e, q, st, kn, ff, by rw [k5.1]; exact upm_s, h2, YM.ext h3 kk (show ¬ 6 = 27 by decide) (show ¬ 1 = 27 by decide), h4', h5.ext kk (show ¬ 30 = 27 by decide) (show ¬ 5 = 27 by decide) (show ¬ 13 = 27 by decide), h6, h7, h8, kl, kc, fc, (kk kn _ h9 h6 (by rw [kd2]; exact (show ¬ 2 = 27 by decide))).1, (kk ff _ h10 h7 (by
      have q : kd (.inl (0, Q.n, .inl fc)) = 0 := kd0 hn
      show ¬ kd (.inl (0, Q.n, .inl fc)) = 27
      rw [q]
      decide)).1, h11, h12⟩
    exact ⟨W3, run W3 (yMoves h1) e5, ⟨fun _ => yt, yt.yd hn ht⟩, f2.tr (k5.fy h2)⟩
/-- tries at most, of so many pebbles -/
def tr_ (s : Nat) : Nat := s + 36 * min s 58
/-- moves until the target is reached -/
theorem y385 (hG : Gr Q.n Q.E) (hC : Cn Q.n Q.E) (ht : t < Q.n) (x9 : Int32) : ∀ (f K k : Nat) (p : Nat → Nat) (mc : Int32) (V : Wd) (w : Nat → Nat), sm p Q.n ≤ f → f < K → YI W0 w0 a t (Q.wm p mc) k V w → (∀ v, v < 6 → p v ≤ 999) → hold Q.n Q.E t p = false → W0.top + k + tr_ (sm p Q.n) < 844000 →
    ∃ V' w' k', lw (G_385_537 a (nI t) x9) K V = some V' ∧ YI W0 w0 a t (Q.wm (rch Q.n Q.E t f p).1 (mc + nI (rch Q.n Q.E t f p).2)) k' V' w' ∧ k' ≤ k + tr_ (sm p Q.n) := by
  intro f
  induction f with
  | zero =>
    intro K k p mc V w hs hK h h9 hh htop
    obtain ⟨K, rfl⟩ : ∃ j, K = j + 1 := ⟨K - 1, by omega⟩
    have hn := hG.2.1
    exfalso
    by_cases h0 : p t = 0
    · obtain ⟨x, y, hx, hy, hm, hmv, hh'⟩ := nxm_ex hG hC ht hh h0
      unfold mv at hmv
      rw [Bool.and_eq_true, Bool.and_eq_true, decide_eq_true_eq, decide_eq_true_eq] at hmv
      have := sm_mem (f := p) hx
      omega
    · have := sm_mem (f := p) ht
      omega
  | succ f ih =>
    intro K k p mc V w hs hK h h9 hh htop
    obtain ⟨K, rfl⟩ : ∃ j, K = j + 1 := ⟨K - 1, by omega⟩
    have hn := hG.2.1
    obtain ⟨b, yb, fz⟩ := id h
    obtain ⟨e, pp, st, kn, ff, kf, y1, -, -, ⟨-, g, y4, y5⟩, -⟩ := id yb.2
    have y4 : V.cl pp = some (.inl (0, Q.n, .inl g)) := y4
    have y5 : g t = nI (p t) := y5 t ht
    have hpt : V.aI pp (nI t) = some (nI (p t)) := by rw [← y5]; exact aI_ y4 ht (by omega)
    have pre : G_385_537 a (nI t) x9 V = (if ¬ nI (p t) = 0 then some (.inr V) else (V.rc a 7).bind fun _ => (F_314 V a (nI t)).bind fun (v184, B185) => (B185.rc a 7).bind fun _ => (F_315 B185 a (v184 / 10) (v184 - v184 / 10 * 10)).bind fun B188 => some (.inl B188)) := by
      unfold G_385_537
      dsimp only
      rw [yPebs y1, Option.bind_some, hpt, Option.bind_some]
    have h9t := h9 t (by omega)
    rw [rch]
    by_cases h0 : p t = 0
    · rw [if_pos h0]
      obtain ⟨x, y, hx, hy, hm, hmv, hh'⟩ := nxm_ex hG hC ht hh h0
      have hmv2 := hmv
      unfold mv at hmv
      rw [Bool.and_eq_true, Bool.and_eq_true, decide_eq_true_eq, decide_eq_true_eq] at hmv
      obtain ⟨⟨h2, had⟩, h99⟩ := hmv
      have hne : ¬ x = y := (hG.2.2 x y (by omega) had).2.2.1
      rw [hm]
      dsimp only
      rw [show (10 * x + y) / 10 = x by omega, show (10 * x + y) % 10 = y by omega]
      have hsm := pmv_sm (n := Q.n) hx hy hne h2
      obtain ⟨V1, w1, j, e1, h1, hj, hj2⟩ := yNext (Q := Q.wm p mc) h hG hC ht (fun v hv => h9 v (by have : v < Q.n := hv; omega)) (by have : 0 ≤ tr_ (sm p Q.n) := Nat.zero_le _; omega)
      have e1 : F_314 V a (nI t) = some (nI4 (nxm Q.n Q.E t p), V1) := e1
      rw [hm] at e1
      have e1 : F_314 V a (nI t) = some (nI (10 * x + y), V1) := e1
      have hj2 : j ≤ 1 ∨ sm p Q.n ≤ 58 := hj2
      obtain ⟨b1, yb1, fz1⟩ := h1
      obtain ⟨V2, e2, y2, f2⟩ := yMoveT (Q := Q.wm p mc) yb1 hn ht hx hy hne h2
      have h3 : YI W0 w0 a t (Q.wm (pmv p x y) (mc + 1)) (k + j) V2 w1 := ⟨b1, y2, (fz1.tr f2.fz).up (Nat.le_refl _) (Nat.le_refl _)⟩
      have htr : tr_ (sm (pmv p x y) Q.n) + j ≤ tr_ (sm p Q.n) := by
        unfold tr_
        rcases hj2 with q | q <;> omega
      obtain ⟨V3, w3, k3, e3, h4, hk3⟩ := ih K (k + j) (pmv p x y) (mc + 1) V2 w1 (by omega) (by omega) h3 (pmv_le h9 (by omega) h99 hne) hh' (by omega)
      refine ⟨V3, w3, k3, (lw_one ?_).trans e3, ?_, by omega⟩
      · obtain ⟨e', pp', st', kn', ff', kf', z1', -⟩ := id yb1.2
        rw [pre, h0, if_neg (fun z => z rfl), rc_ y1, Option.bind_some, e1, Option.bind_some]
        dsimp only
        have q1 : nI (10 * x + y) / 10 = nI x := by
          rw [show (10 : Int32) = nI 10 from rfl, pk_div (by omega) (by decide) (by decide), show (10 * x + y) / 10 = x by omega]
        have q2 : nI (10 * x + y) - nI x * 10 = nI y := by
          rw [show (10 : Int32) = nI 10 from rfl, pk_mul, pk_sub (by omega), show 10 * x + y - x * 10 = y by omega]
        rw [rc_ z1', Option.bind_some, q1, q2, e2, Option.bind_some]
      · have em : mc + nI ((rch Q.n Q.E t f (pmv p x y)).2 + 1) = mc + 1 + nI (rch Q.n Q.E t f (pmv p x y)).2 := by
          rw [← nI_1, Int32.add_comm (nI _) 1, Int32.add_assoc]
        rw [em]
        exact h4
    · rw [if_neg h0]
      refine ⟨V, w, k, lw_end ?_, ?_, by omega⟩
      · rw [pre, if_pos (nI_ne0 (by omega) (by omega))]
      · show YI W0 w0 a t (Q.wm p (mc + nI 0)) k V w
        rw [nI_0, Int32.add_zero]
        exact h
end REACH
