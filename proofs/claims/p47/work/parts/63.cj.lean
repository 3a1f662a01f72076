/-! ===== THE CLASS'S CALLS: moves, reaching, strategies, history, reading ===== -/
section MOVES
variable {Q : Ps} {H : List Ps} {S : Option Ps} {r : Int32} {W : Wd}
theorem cMoveX (h : CI Q H S r W) {x z : Int32} (hv : (isv Q.n x && isv Q.n z) = false) : Ou W (F_88 W x z) (.inr 2) Q H S r := by
  have hn := h.2.1.1.2.1
  have e : F_88 W x z = some (.inr 2, W.thr) := by
    unfold F_88
    cases hx1 : isv Q.n x with
    | false =>
      rw [c124f h.1.1 (by omega) hx1]
      rfl
    | true =>
      obtain ⟨u, hu, rfl⟩ := isv_of (by omega) hx1
      rw [hx1, Bool.true_and] at hv
      rw [c124t h.1.1 (by omega) hu, Option.bind_some]
      dsimp only
      rw [xq_l, c124f h.1.1 (by omega) hv]
      rfl
  rw [e]; exact h.thr
theorem cMove0 (h : CI Q H S r W) {u v : Nat} (hu : u < Q.n) (hv : v < Q.n) : F_88 W (nI u) (nI v) = (if ¬ bI (ad Q.E u v) = 0 then J_88_0_j27 W (nI u) (nI v) else (F_128 W 4).bind fun (r39, B40) => xq r39 (fun X41 => some (.inr X41, B40)) fun u42 => J_88_0_j27 B40 (nI u) (nI v)) := by
  have hn := h.2.1.1.2.1
  unfold F_88
  rw [c124t h.1.1 (by omega) hu, Option.bind_some]
  dsimp only
  rw [xq_l, c124t h.1.1 (by omega) hv, Option.bind_some]
  dsimp only
  rw [xq_l, c6 h.1.1 h.2.1.1.E_lt (by omega) (by omega), Option.bind_some]
theorem cMove (h : CI Q H S r W) (hd : W.top < 900000) {u v : Nat} (hu : u < Q.n) (hv : v < Q.n) :
    if ad Q.E u v = false then Ou W (F_88 W (nI u) (nI v)) (.inr 0) Q H S 4 else if Q.pl u < 2 then Ou W (F_88 W (nI u) (nI v)) (.inr 0) Q H S 5 else if Q.pl v = 999 then Ou W (F_88 W (nI u) (nI v)) (.inr 0) Q H S 6 else Ou W (F_88 W (nI u) (nI v)) (.inl (nI (pmv Q.pl u v v))) (Q.wm (pmv Q.pl u v) (Q.mc + 1)) (hpush H Q) S r := by
  obtain ⟨hG, hC, hO, h9⟩ := id h.2.1
  have hn := hG.2.1
  have h9v := h9 v (by omega)
  have h9u := h9 u (by omega)
  have e := cMove0 h hu hv
  split
  · next ha =>
    rw [ha, if_neg (by decide), refuse] at e
    rw [e]; exact h.ref 4
  · next ha =>
    have ha : ad Q.E u v = true := by simpa using ha
    have hne : ¬ u = v := (hG.2.2 u v (by omega) ha).2.2.1
    rw [ha, if_pos (by decide)] at e
    unfold J_88_0_j27 at e
    rw [ixn (by omega) (by decide), Option.bind_some, h.1.2.1 u (by omega)] at e
    split
    · next h2 =>
      rw [if_neg (show ¬ (2 : Int32) ≤ nI (Q.pl u) from nI_ge (b := 2) h2 (by decide)), refuse] at e
      rw [e]; exact h.ref 5
    · next h2 =>
      rw [if_pos (show (2 : Int32) ≤ nI (Q.pl u) from nI_le (a := 2) (by omega) (by omega))] at e
      unfold J_88_0_j45 at e
      rw [ixn (by omega) (by decide), Option.bind_some, h.1.2.1 v (by omega)] at e
      split
      · next h99 =>
        rw [if_neg (show ¬ nI (Q.pl v) < (999 : Int32) from nI_nlt (a := Q.pl v) (b := 999) (by omega) (by omega)), refuse] at e
        rw [e]; exact h.ref 6
      · next h99 =>
        rw [if_pos (show nI (Q.pl v) < (999 : Int32) from nI_lt (b := 999) (by omega) (by decide))] at e
        obtain ⟨V, k1, k2, k3, k4, k5, k6, k7⟩ := h.kept hd
        have vP : CP Q.pl V.board := by rw [k2]; exact h.1.2.1
        obtain ⟨f, f1, f2⟩ := c24 vP (u := u) (v := v) (by omega) (by omega) (by omega)
        obtain ⟨D, hD, d1, d2, d3, d4, d5, d6, d7, d8, d9⟩ := bd_pm V.board f (V.board.moveCount + 1)
        rw [hD] at f1
        refine Ou.mk (V := V) (D := D) ?_ (k7 D _ (h.1.pl (d1.trans (by rw [k2])) (d2.trans (by rw [k2])) (d3.trans (by rw [k2])) (d4.trans (by rw [k2])) (d5.trans (by rw [k2])) (d6.trans (by rw [k2])) (d7.trans (by rw [k2])) (fun w hw => by rw [d8]; exact f2 w hw) (d9.trans (by rw [k2, h.1.2.2.2.2]))) ⟨hG, hC, hO, pmv_le h9 (by omega) (by omega) hne⟩) k4 k3 k5
        rw [e]
        unfold J_88_0_j66
        rw [k1, Option.bind_some, f1, Option.bind_some, Option.bind_some, ixn (by omega) (by decide), Option.bind_some]
        show some (Sum.inl (D.pile v), V.w_board D) = _
        rw [d8, f2 v (by omega)]
/-! reaching -/
/-- the piles and the moves on the way to a target -/
def rch (n E t : Nat) : Nat → (Nat → Nat) → (Nat → Nat) × Nat
  | 0, p => (p, 0)
  | f + 1, p => if p t = 0 then match nxm n E t p with
      | some m => ((rch n E t f (pmv p (m / 10) (m % 10))).1, (rch n E t f (pmv p (m / 10) (m % 10))).2 + 1)
      | none => (p, 0)
    else (p, 0)
theorem rch_le {n E t : Nat} {p : Nat → Nat} (hG : Gr n E) (hC : Cn n E) (ht : t < n) : ∀ (f : Nat) (p : Nat → Nat), (∀ v, v < 6 → p v ≤ 999) → hold n E t p = false → (rch n E t f p).2 + sm (rch n E t f p).1 n = sm p n ∧ (∀ v, v < 6 → (rch n E t f p).1 v ≤ 999) := by
  intro f
  induction f with
  | zero => intro p h9 hh; exact ⟨Nat.zero_add _, h9⟩
  | succ f ih =>
    intro p h9 hh
    unfold rch
    by_cases h0 : p t = 0
    · rw [if_pos h0]
      obtain ⟨x, y, hx, hy, hm, hmv, hh'⟩ := nxm_ex hG hC ht hh h0
      have hn := hG.2.1
      unfold mv at hmv
      rw [Bool.and_eq_true, Bool.and_eq_true, decide_eq_true_eq, decide_eq_true_eq] at hmv
      obtain ⟨⟨h2, had⟩, h99⟩ := hmv
      have hne : ¬ x = y := (hG.2.2 x y (by omega) had).2.2.1
      rw [hm]
      dsimp only
      rw [show (10 * x + y) / 10 = x by omega, show (10 * x + y) % 10 = y by omega]
      have hsm := pmv_sm (n := n) hx hy hne h2
      obtain ⟨i1, i2⟩ := ih (pmv p x y) (pmv_le h9 (by omega) h99 hne) hh'
      exact ⟨by omega, i2⟩
    · rw [if_neg h0]
      exact ⟨Nat.zero_add _, h9⟩
theorem mc_add (m : Int32) (i : Nat) : m + nI i + 1 = m + nI (i + 1) := by
  rw [Int32.add_assoc, nI_1]
theorem reach_l {a t : Nat} {P : FP} (hG : Gr Q.n Q.E) (hC : Cn Q.n Q.E) (ht : t < Q.n) (fR : FR Q.n Q.E t P) : ∀ (f i k1 : Nat) (p : Nat → Nat) (mc : Int32) (V : Wd), sm p Q.n ≤ f → f < k1 → i + sm p Q.n ≤ 5994 → V.fp a = some P → BQ (Q.wm p mc) V.board → (∀ v, v < 6 → p v ≤ 999) → hold Q.n Q.E t p = false →
    ∃ D, lw (G_89_44 (nI t) a) k1 (nI i, V) = some (nI (i + (rch Q.n Q.E t f p).2), V.w_board D) ∧ BQ (Q.wm (rch Q.n Q.E t f p).1 (mc + nI (rch Q.n Q.E t f p).2)) D := by
  intro f
  induction f with
  | zero =>
    intro i k1 p mc V hs hk1 hi hf sq h9 hh
    have hp0 : p t = 0 := by
      have := sm_mem (f := p) ht
      omega
    obtain ⟨x, y, hx, hy, -, hm, -⟩ := nxm_ex hG hC ht hh hp0
    unfold mv at hm
    rw [Bool.and_eq_true, Bool.and_eq_true, decide_eq_true_eq] at hm
    have := sm_mem (f := p) hx
    omega
  | succ f ih =>
    intro i k1 p mc V hs hk1 hi hf sq h9 hh
    obtain ⟨k1, rfl⟩ : ∃ j, k1 = j + 1 := ⟨k1 - 1, by omega⟩
    have hn := hG.2.1
    have h9t := h9 t (by omega)
    have qP : CP p V.board := sq.2.1
    by_cases h0 : p t = 0
    · obtain ⟨x, y, hx, hy, hm, hmv, hh'⟩ := nxm_ex hG hC ht hh h0
      have hmv' := hmv
      unfold mv at hmv'
      rw [Bool.and_eq_true, Bool.and_eq_true, decide_eq_true_eq, decide_eq_true_eq] at hmv'
      obtain ⟨⟨h2, had⟩, h99⟩ := hmv'
      have hne : ¬ x = y := (hG.2.2 x y (by omega) had).2.2.1
      have hsx := sm_mem (f := p) hx
      have hsm := pmv_sm (n := Q.n) hx hy hne h2
      have e1 : nI (10 * x + y) / 10 = nI x := by
        rw [show (10 : Int32) = nI 10 from rfl, pk_div (by omega) (by decide) (by decide), show (10 * x + y) / 10 = x by omega]
      have e2 : nI (10 * x + y) - nI (10 * x + y) / 10 * 10 = nI y := by
        rw [show (10 : Int32) = nI 10 from rfl, pk_rem (by omega) (by decide) (by decide), show (10 * x + y) % 10 = y by omega]
      obtain ⟨g, g1, g2⟩ := c24 qP (u := x) (v := y) (by omega) (by omega) h2
      obtain ⟨D, hD, d1, d2, d3, d4, d5, d6, d7, d8, d9⟩ := bd_pm V.board g (V.board.moveCount + 1)
      rw [hD] at g1
      have sq1 : BQ (Q.wm (pmv p x y) (mc + 1)) D := BQ.pl (Q := Q.wm p mc) sq d1 d2 d3 d4 d5 d6 d7 (fun w hw => by rw [d8]; exact g2 w hw) (d9.trans (by rw [sq.2.2.2.2]; rfl))
      have c1 : G_89_44 (nI t) a (nI i, V) = some (.inl (nI (i + 1), V.w_board D)) := by
        simp only [G_89_44]
        rw [ixn (by omega) (by decide), Option.bind_some, qP t (by omega), h0, if_neg (fun z => z rfl), if_neg (show ¬ (5994 : Int32) ≤ nI i from nI_ge (b := 5994) (by omega) (by decide)), hf, Option.bind_some, c130 (E := Q.E) (n := Q.n) (t := t) hf fR sq.1 qP h9 hG hC ht, Option.bind_some]
        dsimp only
        rw [hm, pI_some, if_pos (nI_m1 (by omega)), e2, e1, g1, Option.bind_some, nI_1, Option.bind_some]
      obtain ⟨D', f1, f2⟩ := ih (i + 1) k1 (pmv p x y) (mc + 1) (V.w_board D) (by omega) (by omega) (by omega) ((fp_dyn (W := V) (X := V.w_board D) rfl a).trans hf) sq1 (pmv_le h9 (by omega) h99 hne) hh'
      have er : rch Q.n Q.E t (f + 1) p = ((rch Q.n Q.E t f (pmv p x y)).1, (rch Q.n Q.E t f (pmv p x y)).2 + 1) := by
        rw [rch, if_pos h0, hm]
        dsimp only
        rw [show (10 * x + y) / 10 = x by omega, show (10 * x + y) % 10 = y by omega]
      rw [er]
      refine ⟨D', ?_, ?_⟩
      · rw [(lw_one c1).trans f1, show i + 1 + (rch Q.n Q.E t f (pmv p x y)).2 = i + ((rch Q.n Q.E t f (pmv p x y)).2 + 1) by omega]
        rfl
      · rw [show mc + nI ((rch Q.n Q.E t f (pmv p x y)).2 + 1) = mc + 1 + nI (rch Q.n Q.E t f (pmv p x y)).2 by rw [← mc_add, Int32.add_assoc, Int32.add_assoc, Int32.add_comm (nI _) 1]]
        exact f2
    · have hz : ¬ nI (p t) = 0 := nI_ne0 (by omega) (by omega)
      have er : rch Q.n Q.E t (f + 1) p = (p, 0) := by rw [rch, if_neg h0]
      rw [er]
      refine ⟨V.board, lw_end ?_, ?_⟩
      · simp only [G_89_44]
        rw [ixn (by omega) (by decide), Option.bind_some, qP t (by omega), if_pos hz]
        rfl
      · rw [show mc + nI 0 = mc from by rw [nI_0]; exact Int32.add_zero _]
        exact sq
theorem cReach (h : CI Q H S r W) (hd : W.top < 800000) {t : Nat} (ht : t < Q.n) :
    if hold Q.n Q.E t Q.pl = true then Ou W (F_89 W (nI t)) (.inr 0) Q H S 6 else Ou W (F_89 W (nI t)) (.inl (nI (rch Q.n Q.E t (sm Q.pl Q.n) Q.pl).2)) (Q.wm (rch Q.n Q.E t (sm Q.pl Q.n) Q.pl).1 (Q.mc + nI (rch Q.n Q.E t (sm Q.pl Q.n) Q.pl).2)) (hpush H Q) S r := by
  obtain ⟨hG, hC, hO, h9⟩ := id h.2.1
  have hn := hG.2.1
  have h1 := hG.1
  obtain ⟨a1, a2, a3, a4, a5, a6⟩ := id h
  obtain ⟨a, V, P, e1, e2, e3, e4, ⟨f1, f2, f3, f4, f5, f6, f7, f8⟩, e6⟩ := c129 a6 a1.1 a1.2.2.2.1 hG hC ht (by omega)
  have hh : F_43 V a = some (bI (hold Q.n Q.E t Q.pl)) := c43 e2 e3 (by rw [f2]; exact a1.2.1) (q31 h) hG hC ht
  have hV : CI Q H S r V := by
    refine ⟨by rw [f2]; exact a1, a2, by rw [f1, f3]; exact a3, by rw [f1]; exact a4, ?_, e4⟩
    rw [f4]
    exact a5.mono rfl fun b B q => by rw [f7 b (by have := (at_lt (at_bd q)).2.2; have := dsz_pos (Sum.inl B : Dy); omega)]; exact q
  have e0 : F_89 W (nI t) = (if bI (hold Q.n Q.E t Q.pl) = 0 then J_89_0_j31 V (nI t) a else (F_128 V 6).bind fun (r35, B36) => xq r35 (fun X37 => some (.inr X37, B36)) fun u38 => J_89_0_j31 B36 (nI t) a) := by
    unfold F_89
    rw [c124t a1.1 (by omega) ht, Option.bind_some]
    dsimp only
    rw [xq_l, e1, Option.bind_some]
    dsimp only
    rw [e2, Option.bind_some, hh, Option.bind_some]
  have fin : ∀ {A : Int32 ⊕ Nat} {Q' : Ps} {H' : List Ps} {r' : Int32} {F : Option ((Int32 ⊕ Nat) × Wd)} {X : Wd}, F = some (A, X) → CI Q' H' S r' X → X.cl = V.cl → X.inp = V.inp → Co 7 146 V X → Ou W F A Q' H' S r' := fun g1 g2 g3 g4 g5 => ⟨_, g1, g2, g3.trans f6, g4.trans f5, (f8.tr g5).up (by decide) (by decide)⟩
  split
  · next hq =>
    rw [hq, if_neg (by decide), refuse] at e0
    obtain ⟨X, g1, g2, g3, g4, g5⟩ := hV.ref 6
    cases g1
    exact fin e0 g2 g3 g4 ((Co.thr _).up (by decide) (by decide))
  · next hq =>
    have hq : hold Q.n Q.E t Q.pl = false := by simpa using hq
    rw [hq, if_pos (by decide)] at e0
    obtain ⟨Y, k1, k2, k3, k4, k5, k6, k7⟩ := hV.kept (by have := f8.2.2; have := f8.1; omega)
    have hs : sm Q.pl Q.n ≤ 5994 := by
      have := sm_le (f := Q.pl) (c := 999) (n := Q.n) (fun v hv => h9 v (by omega))
      have : Q.n * 999 ≤ 6 * 999 := Nat.mul_le_mul_right _ hn
      omega
    obtain ⟨D, g1, g2⟩ := reach_l hG hC ht e3 (sm Q.pl Q.n) 0 200000 Q.pl Q.mc Y (Nat.le_refl _) (by omega) (by omega) (by rw [k6]; exact e2) (by rw [k2, f2]; exact a1) h9 hq
    refine fin (X := Y.w_board D) ?_ (k7 D _ g2 ⟨hG, hC, hO, (rch_le (p := Q.pl) hG hC ht _ Q.pl h9 hq).2⟩) ((cl_dyn rfl).trans k4) k3 ?_
    · rw [e0]
      unfold J_89_0_j31
      rw [k1, Option.bind_some, show (0 : Int32) = nI 0 from rfl, g1, Option.bind_some]
      dsimp only
      rw [Nat.zero_add]
      rfl
    · obtain ⟨c1, c2, c3⟩ := k5
      exact ⟨Nat.le_trans c1 (by omega), Nat.le_trans c2 (by omega), c3⟩
end MOVES
section STRAT
variable {Q : Ps} {H : List Ps} {S : Option Ps} {r : Int32} {W : Wd}
def Ps.wS (Q : Ps) (sc : Nat) (tg : Nat → Nat) (wt : Nat → Nat → Nat) (pr : Nat → Nat → Option Nat) : Ps := mP Q.n Q.E Q.pl Q.mc sc tg wt pr
theorem BQ.st {sc : Nat} {tg : Nat → Nat} {wt : Nat → Nat → Nat} {pr : Nat → Nat → Option Nat} {B D : Bd} (h : BQ Q B) (h1 : D.vertices = B.vertices) (h2 : D.edges = B.edges) (h3 : D.distances = B.distances) (h4 : D.pile = B.pile) (h5 : D.moveCount = B.moveCount) (h6 : CS Q.n sc tg wt pr D) : BQ (Q.wS sc tg wt pr) D := by
  obtain ⟨a1, a2, a3, a4, a5⟩ := h
  exact ⟨⟨h1.trans a1.1, h2.trans a1.2⟩, fun v hv => by rw [h4]; exact a2 v hv, h6, fun u v hu hv => by rw [h3]; exact a4 u v hu hv, h5.trans a5⟩
theorem cNew (h : CI Q H S r W) (hd : W.top < 900000) {t : Nat} (ht : t < Q.n) : if Q.sc = 6 then Ou W (F_90 W (nI t)) (.inr 0) Q H S 7 else Ou W (F_90 W (nI t)) (.inl (nI Q.sc)) (Q.wS (Q.sc + 1) (otg Q.sc Q.tg t) (owt Q.sc Q.wt) (opr Q.sc Q.pr)) (hpush H Q) S r := by
  obtain ⟨hG, hC, hO, h9⟩ := id h.2.1
  have hn := hG.2.1
  have s6 := hO.1
  have e : F_90 W (nI t) = (if nI Q.sc < 6 then J_90_0_j23 W (nI t) else (F_128 W 7).bind fun (r14, B15) => xq r14 (fun X16 => some (.inr X16, B15)) fun u17 => J_90_0_j23 B15 (nI t)) := by
    unfold F_90
    rw [c124t h.1.1 (by omega) ht, Option.bind_some]
    dsimp only
    rw [xq_l, h.1.2.2.1.1]
  split
  · next hs =>
    rw [hs, if_neg (by decide), refuse] at e
    rw [e]; exact h.ref 7
  · next hs =>
    rw [if_pos (show nI Q.sc < (6 : Int32) from nI_lt (b := 6) (by omega) (by decide))] at e
    obtain ⟨V, k1, k2, k3, k4, k5, k6, k7⟩ := h.kept hd
    have vS : CS Q.n Q.sc Q.tg Q.wt Q.pr V.board := by rw [k2]; exact h.1.2.2.1
    obtain ⟨f, g, q, f1, f2, f3, f4⟩ := c25 vS (show Q.sc < 6 by omega) t
    have cS := c25S vS hn (t := t) f2 f3 f4
    obtain ⟨D, hD, d1, d2, d3, d4, d5, d6⟩ := bd_sb5 V.board f g q (nI (Q.sc + 1))
    rw [hD] at f1 cS
    refine Ou.mk (V := V) (D := D) ?_ (k7 D _ (h.1.st (d1.trans (by rw [k2])) (d2.trans (by rw [k2])) (d3.trans (by rw [k2])) (d4.trans (by rw [k2])) (d5.trans (by rw [k2])) cS) ⟨hG, hC, oSO hO (by omega) ht, h9⟩) k4 k3 k5
    rw [e]
    unfold J_90_0_j23
    rw [k1, Option.bind_some, f1, Option.bind_some, Option.bind_some]
    show some (Sum.inl (D.strategyCount - 1), V.w_board D) = _
    rw [d6, z1, pk_sub (by omega), Nat.add_sub_cancel]
theorem cDropX (h : CI Q H S r W) {x : Int32} (hv : isv Q.sc x = false) : Ou W (F_92 W x) (.inr 2) Q H S r := by
  have s6 := h.2.1.2.2.1.1
  have e : F_92 W x = some (.inr 2, W.thr) := by
    unfold F_92
    rw [c126f h.1.2.2.1 (by omega) hv]
    rfl
  rw [e]; exact h.thr
theorem cDrop (h : CI Q H S r W) (hd : W.top < 900000) {s : Nat} (hs : s < Q.sc) : Ou W (F_92 W (nI s)) (.inl (nI (Q.sc - 1))) (Q.wS (Q.sc - 1) (dtg s Q.tg) (dwt s Q.wt) (dwt s Q.pr)) (hpush H Q) S r := by
  obtain ⟨hG, hC, hO, h9⟩ := id h.2.1
  have hn := hG.2.1
  have s6 := hO.1
  obtain ⟨V, k1, k2, k3, k4, k5, k6, k7⟩ := h.kept hd
  have vB : CB Q.n Q.E V.board := by rw [k2]; exact h.1.1
  have vS : CS Q.n Q.sc Q.tg Q.wt Q.pr V.board := by rw [k2]; exact h.1.2.2.1
  obtain ⟨f, g, q, f1, cS⟩ := c26 vB vS hn s6 hs
  obtain ⟨D, hD, d1, d2, d3, d4, d5, d6⟩ := bd_sb5 V.board f g q (nI (Q.sc - 1))
  rw [hD] at f1 cS
  refine Ou.mk (V := V) (D := D) ?_ (k7 D _ (h.1.st (d1.trans (by rw [k2])) (d2.trans (by rw [k2])) (d3.trans (by rw [k2])) (d4.trans (by rw [k2])) (d5.trans (by rw [k2])) cS) ⟨hG, hC, dSO hO hs, h9⟩) k4 k3 k5
  unfold F_92
  rw [c126t h.1.2.2.1 (by omega) hs, Option.bind_some]
  dsimp only
  rw [xq_l, k1, Option.bind_some, f1, Option.bind_some, Option.bind_some]
  show some (Sum.inl D.strategyCount, V.w_board D) = _
  rw [d6]
theorem cWeighX (h : CI Q H S r W) {x z q : Int32} (hv : (isv Q.sc x && (isv Q.n z && isv Q.n q)) = false) (w : Int32) : Ou W (F_91 W x z q w) (.inr 2) Q H S r := by
  have hn := h.2.1.1.2.1
  have s6 := h.2.1.2.2.1.1
  have e : F_91 W x z q w = some (.inr 2, W.thr) := by
    unfold F_91
    cases hx : isv Q.sc x with
    | false => rw [c126f h.1.2.2.1 (by omega) hx]; rfl
    | true =>
      obtain ⟨s, hs, rfl⟩ := isv_of (by omega) hx
      rw [hx, Bool.true_and] at hv
      rw [c126t h.1.2.2.1 (by omega) hs, Option.bind_some]
      dsimp only
      rw [xq_l]
      cases hz : isv Q.n z with
      | false => rw [c124f h.1.1 (by omega) hz]; rfl
      | true =>
        obtain ⟨v, hv', rfl⟩ := isv_of (by omega) hz
        rw [hz, Bool.true_and] at hv
        rw [c124t h.1.1 (by omega) hv', Option.bind_some]
        dsimp only
        rw [xq_l, c124f h.1.1 (by omega) hv]
        rfl
  rw [e]; exact h.thr
theorem cWeigh0 (h : CI Q H S r W) {s v p : Nat} (hs : s < Q.sc) (hv : v < Q.n) (hp : p < Q.n) (w : Int32) : F_91 W (nI s) (nI v) (nI p) w = (if w < 0 then J_91_0_j40 W else if 64 < w then J_91_0_j40 W else (ix (nI s) 6).bind fun i18 => if ¬ nI v = (W.board.targets i18) then (F_50 W).bind fun B22 => (F_28 B22.board (nI s) (nI v)).bind fun v24 => (F_27 B22.board (nI s) (nI v) (nI p) w).bind fun o26 => (some (B22.w_board o26)).bind fun B27 => some (.inl v24, B27) else J_91_0_j40 W) := by
  have hn := h.2.1.1.2.1
  have s6 := h.2.1.2.2.1.1
  unfold F_91
  rw [c126t h.1.2.2.1 (by omega) hs, Option.bind_some]
  dsimp only
  rw [xq_l, c124t h.1.1 (by omega) hv, Option.bind_some]
  dsimp only
  rw [xq_l, c124t h.1.1 (by omega) hp, Option.bind_some]
  rfl
theorem cWeigh1 (h : CI Q H S r W) {s v p : Nat} (hs : s < Q.sc) (hv : v < Q.n) (hp : p < Q.n) {w : Int32} (hw : ¬ (0 ≤ w ∧ w ≤ 64)) : Ou W (F_91 W (nI s) (nI v) (nI p) w) (.inr 1) Q H S r := by
  have e : F_91 W (nI s) (nI v) (nI p) w = some (.inr 1, W.thr) := by
    rw [cWeigh0 h hs hv hp]
    by_cases h0 : w < 0
    · rw [if_pos h0]; rfl
    · rw [if_neg h0, if_pos (show 64 < w from by
        rw [← Int32.not_le]
        exact fun q => hw ⟨by rw [← Int32.not_lt]; exact h0, q⟩)]
      rfl
  rw [e]; exact h.thr
theorem cWeigh (h : CI Q H S r W) (hd : W.top < 900000) {s v p a : Nat} (hs : s < Q.sc) (hv : v < Q.n) (hp : p < Q.n) (ha : a ≤ 64) : if v = Q.tg s then Ou W (F_91 W (nI s) (nI v) (nI p) (nI a)) (.inr 1) Q H S r else Ou W (F_91 W (nI s) (nI v) (nI p) (nI a)) (.inl (nI (Q.wt s v))) (Q.wS Q.sc Q.tg (uwt s v a Q.wt) (uwt s v (some p) Q.pr)) (hpush H Q) S r := by
  obtain ⟨hG, hC, hO, h9⟩ := id h.2.1
  have hn := hG.2.1
  have s6 := hO.1
  have htg := (hO.2 s hs).1
  have e := cWeigh0 h hs hv hp (nI a)
  rw [if_neg (show ¬ nI a < 0 from nI_nlt (b := 0) (Nat.zero_le _) (by omega)), if_neg (show ¬ 64 < nI a from nI_nlt (a := 64) ha (by decide)), ixn (by omega) (by decide), Option.bind_some, (h.1.2.2.1.2 s hs).1] at e
  split
  · next hvt =>
    rw [if_neg (fun z => z (by rw [hvt]))] at e
    rw [e]; exact h.thr
  · next hvt =>
    rw [if_pos (show ¬ nI v = nI (Q.tg s) by rw [nI_eq (by omega) (by omega)]; exact hvt)] at e
    obtain ⟨V, k1, k2, k3, k4, k5, k6, k7⟩ := h.kept hd
    have vS : CS Q.n Q.sc Q.tg Q.wt Q.pr V.board := by rw [k2]; exact h.1.2.2.1
    have uc := uCS (k := s) (v := v) (q := p) (w := a) vS hn hv
    obtain ⟨D, hD, d1, d2, d3, d4, d5⟩ := bd_wp5 V.board (upd V.board.weights (6 * s + v) (nI a)) (upd V.board.parents (6 * s + v) (nI p))
    rw [hD] at uc
    refine Ou.mk (V := V) (D := D) ?_ (k7 D _ (h.1.st (d1.trans (by rw [k2])) (d2.trans (by rw [k2])) (d3.trans (by rw [k2])) (d4.trans (by rw [k2])) (d5.trans (by rw [k2])) uc) ⟨hG, hC, uSO hO hp ha, h9⟩) k4 k3 k5
    rw [e, k1, Option.bind_some, c28 vS hn s6 hs hv, Option.bind_some, c27 (by omega), hD, Option.bind_some, Option.bind_some]
end STRAT
section HIST
variable {Q : Ps} {H : List Ps} {S : Option Ps} {r : Int32} {W : Wd}
theorem HH.len {h : Hs} {bd : Nat → Option Bd} {l : List Ps} (k : HH h bd l) : l.length ≤ 10 ∧ h.size = nI l.length := by
  obtain ⟨o, a1, a2, a3, -⟩ := k
  exact ⟨a1, a3⟩
theorem cUndo0 (h : CI Q [] S r W) : Ou W (F_93 W) (.inr 0) Q [] S r := by
  have e : F_93 W = some (.inr 0, W.thr) := by
    unfold F_93
    rw [h.2.2.2.2.1.len.2, if_neg (by decide)]
  rw [e]; exact h.thr
theorem cUndo {R : Ps} (h : CI Q (H ++ [R]) S r W) : Ou W (F_93 W) (.inl (nI H.length)) R H S r := by
  obtain ⟨a1, a2, a3, a4, a5, a6⟩ := h
  obtain ⟨l1, l2⟩ := a5.len
  have hl : (H ++ [R]).length = H.length + 1 := by rw [List.length_append]; rfl
  rw [hl] at l1 l2
  obtain ⟨V, e, b1, b2, b3, b4, b5, b6, b7, b8, b9, b10⟩ := c51 a5
  refine ⟨V, ?_, ⟨b1, b2, by rw [b4, b5]; exact a3, by rw [b4]; exact a4, b3, a6.dy b7 b8⟩, cl_dyn b8, b6, (Co.dy b9 b10 b8).up (by decide) (by decide)⟩
  unfold F_93
  rw [if_pos (show ¬ W.hist.size = 0 by rw [l2]; exact nI_ne0 (by omega) (by omega)), e, Option.bind_some, b3.len.2]
theorem cUndoCount (h : CI Q H S r W) : F_94 W = some (nI H.length) := by
  unfold F_94
  rw [h.2.2.2.2.1.len.2]
theorem cReason (h : CI Q H S r W) : F_97 W = some r := by
  unfold F_97
  rw [h.2.2.2.1]
theorem cSave (h : CI Q H S r W) : ∃ V, F_95 W = some (nI Q.n, V) ∧ CI Q H (some Q) r V ∧ V.cl = W.cl ∧ V.inp = W.inp ∧ Co 0 0 W V := by
  obtain ⟨a1, a2, a3, a4, a5, a6⟩ := h
  obtain ⟨B', e, q⟩ := c2q W.saved W.board
  refine ⟨(W.w_saved B').w_pp ((W.w_saved B').pp.w_hasSaved 1), ?_, ⟨a1, a2, ⟨rfl, q Q a2 a1, a2⟩, a4, a5.mono rfl fun b B z => z, a6.dy rfl rfl⟩, cl_dyn rfl, rfl, Co.dy rfl rfl rfl⟩
  unfold F_95
  rw [e, Option.bind_some, Option.bind_some, Option.bind_some, Option.bind_some]
  show some (W.board.vertices, _) = _
  rw [a1.1.1]
theorem HH.zero {h : Hs} {bd : Nat → Option Bd} {l : List Ps} (k : HH h bd l) : HH (h.w_size 0) bd [] := by
  obtain ⟨o, a1, a2, a3, a4, a5, a6, a7⟩ := k
  exact ⟨o, Nat.zero_le _, a2, rfl, a4, a5, a6, fun i Q hi => by simp at hi⟩
theorem cRestore0 (h : CI Q H none r W) : Ou W (F_96 W) (.inr 0) Q H none r := by
  have h3 : W.pp.hasSaved = 0 := h.2.2.1
  have e : F_96 W = some (.inr 0, W.thr) := by
    unfold F_96
    rw [h3, if_neg (fun z => z rfl)]
  rw [e]; exact h.thr
theorem cRestore {R : Ps} (h : CI Q H (some R) r W) : Ou W (F_96 W) (.inl (nI R.n)) R [] (some R) r := by
  obtain ⟨a1, a2, ⟨a3, a3', a3''⟩, a4, a5, a6⟩ := h
  obtain ⟨B', e, q⟩ := c2q W.board W.saved
  refine ⟨(W.w_board B').w_hist ((W.w_board B').hist.w_size 0), ?_, ⟨q R a3'' a3', a3'', ⟨a3, a3', a3''⟩, a4, a5.zero.mono rfl fun b B z => z, a6.dy rfl rfl⟩, cl_dyn rfl, rfl, (Co.dy rfl rfl rfl).up (by decide) (by decide)⟩
  unfold F_96 F_49
  rw [if_pos (by rw [a3]; decide), e, Option.bind_some, Option.bind_some, Option.bind_some, Option.bind_some, Option.bind_some]
  show some (Sum.inl B'.vertices, _) = _
  rw [(q R a3'' a3').1.1]
end HIST
section READ
variable {Q : Ps} {H : List Ps} {S : Option Ps} {r : Int32} {W : Wd}
theorem cIsEdge (h : CI Q H S r W) {u v : Nat} (hu : u < Q.n) (hv : v < Q.n) : F_99 W (nI u) (nI v) = some (.inl (bI (ad Q.E u v)), W) := by
  have hn := h.2.1.1.2.1
  unfold F_99
  rw [c124t h.1.1 (by omega) hu, Option.bind_some]
  dsimp only
  rw [xq_l, c124t h.1.1 (by omega) hv, Option.bind_some]
  dsimp only
  rw [xq_l, c6 h.1.1 h.2.1.1.E_lt (by omega) (by omega), Option.bind_some, if_pos (bI_or _)]
theorem cDistance (h : CI Q H S r W) {u v : Nat} (hu : u < Q.n) (hv : v < Q.n) : F_100 W (nI u) (nI v) = some (.inl (nI (ds Q.n Q.E u v)), W) := by
  have hn := h.2.1.1.2.1
  unfold F_100
  rw [c124t h.1.1 (by omega) hu, Option.bind_some]
  dsimp only
  rw [xq_l, c124t h.1.1 (by omega) hv, Option.bind_some]
  dsimp only
  rw [xq_l, c15 h.1.2.2.2.1 hn hu hv, Option.bind_some]
theorem cPebbles (h : CI Q H S r W) {v : Nat} (hv : v < Q.n) : F_102 W (nI v) = some (.inl (nI (Q.pl v)), W) := by
  have hn := h.2.1.1.2.1
  unfold F_102
  rw [c124t h.1.1 (by omega) hv, Option.bind_some]
  dsimp only
  rw [xq_l, ixn (by omega) (by decide), Option.bind_some, h.1.2.1 v (by omega)]
def cnt (Q : Ps) : Nat → Int32
  | 0 => nI Q.n
  | 1 => nI (ec Q.n Q.E)
  | 2 => nI (sm Q.pl Q.n)
  | 3 => Q.mc
  | 4 => nI Q.sc
  | _ => nI (dia Q.n Q.E)
theorem cCount (h : CI Q H S r W) : ∀ k, k < 6 → F_98 W (nI k) = some (.inl (cnt Q k), W)
  | 0, _ => by
    unfold F_98
    rw [if_pos (show nI 0 = 0 from rfl), h.1.1.1]
    rfl
  | 1, _ => by
    unfold F_98
    rw [if_neg (by decide), if_pos (show nI 1 = 1 from rfl), c7 h.1.1 h.2.1.1]
    rfl
  | 2, _ => by
    unfold F_98
    rw [if_neg (by decide), if_neg (by decide), if_pos (show nI 2 = 2 from rfl), c22 h.1.1 h.1.2.1 h.2.1.1.2.1]
    rfl
  | 3, _ => by
    unfold F_98
    rw [if_neg (by decide), if_neg (by decide), if_neg (by decide), if_pos (show nI 3 = 3 from rfl), h.1.2.2.2.2]
    rfl
  | 4, _ => by
    unfold F_98
    rw [if_neg (by decide), if_neg (by decide), if_neg (by decide), if_neg (by decide), if_pos (show nI 4 = 4 from rfl), h.1.2.2.1.1]
    rfl
  | 5, _ => by
    unfold F_98
    rw [if_neg (by decide), if_neg (by decide), if_neg (by decide), if_neg (by decide), if_neg (by decide), if_pos (show nI 5 = 5 from rfl), c18 h.1.1 h.1.2.2.2.1 h.2.1.1]
    rfl
  | k + 6, hk => absurd hk (by omega)
def stg (Q : Ps) (k v : Nat) : Nat → Int32
  | 0 => nI (Q.tg k)
  | 1 => nI (Q.wt k v)
  | _ => pI (Q.pr k v)
theorem cStrategy (h : CI Q H S r W) {k v : Nat} (hk : k < Q.sc) (hv : v < Q.n) : ∀ w, w < 3 → F_115 W (nI k) (nI v) (nI w) = some (.inl (stg Q k v w), W) := by
  have hn := h.2.1.1.2.1
  have s6 := h.2.1.2.2.1.1
  have e : ∀ z, F_115 W (nI k) (nI v) z = (if z = 0 then (ix (nI k) 6).bind fun i12 => some (.inl (W.board.targets i12), W) else if z = 1 then (F_28 W.board (nI k) (nI v)).bind fun v16 => some (.inl v16, W) else if z = 2 then (F_29 W.board (nI k) (nI v)).bind fun v19 => some (.inl v19, W) else some (.inr 1, W.thr)) := by
    intro z
    unfold F_115
    rw [c126t h.1.2.2.1 (by omega) hk, Option.bind_some]
    dsimp only
    rw [xq_l, c124t h.1.1 (by omega) hv, Option.bind_some]
    rfl
  intro w hw
  rw [e]
  match w, hw with
  | 0, _ => rw [if_pos (show nI 0 = 0 from rfl), ixn (by omega) (by decide), Option.bind_some, (h.1.2.2.1.2 k hk).1]; rfl
  | 1, _ => rw [if_neg (by decide), if_pos (show nI 1 = 1 from rfl), c28 h.1.2.2.1 hn s6 hk hv]; rfl
  | 2, _ => rw [if_neg (by decide), if_neg (by decide), if_pos (show nI 2 = 2 from rfl), c29 h.1.2.2.1 hn s6 hk hv]; rfl
end READ
