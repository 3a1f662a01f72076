/-! ===== FAILING PILES: holds, areOf, failingPilesOf, the first move ===== -/
def hx (w p : Nat → Nat) : Nat → Nat
  | 0 => 0
  | i + 1 => hx w p i * 2 ^ w i + p i
def inb (n : Nat) (w p : Nat → Nat) : Bool := al (fun v => decide (p v < 2 ^ w v)) n
def hold (n E t : Nat) (p : Nat → Nat) : Bool := inb n (ds n E t) p && fa n (ad E) (ds n E t) (hx (ds n E t) p n)
section HX
variable {n : Nat} {w p : Nat → Nat}
theorem hx_lt : ∀ {i : Nat}, (∀ v, v < i → p v < 2 ^ w v) → hx w p i < 2 ^ sm w i
  | 0, _ => by show 0 < 2 ^ 0; decide
  | i + 1, h => by
    have h1 := hx_lt (i := i) (fun v hv => h v (by omega))
    have h2 := h i (by omega)
    rw [hx, sm, pw_add]
    have h3 : (hx w p i + 1) * 2 ^ w i ≤ 2 ^ sm w i * 2 ^ w i := Nat.mul_le_mul_right _ h1
    rw [Nat.add_mul, Nat.one_mul] at h3
    omega
theorem hx_div {i : Nat} : ∀ {m : Nat}, i ≤ m → (∀ v, v < m → p v < 2 ^ w v) → hx w p m / 2 ^ (sm w m - sm w i) = hx w p i
  | 0, hi, _ => by
    obtain rfl : i = 0 := by omega
    rw [Nat.sub_self, Nat.pow_zero, Nat.div_one]
  | m + 1, hi, h => by
    by_cases h1 : i = m + 1
    · subst h1
      rw [Nat.sub_self, Nat.pow_zero, Nat.div_one]
    · have h2 := hx_div (i := i) (m := m) (by omega) (fun v hv => h v (by omega))
      have h3 := sm_le_of_lt (f := w) (show i ≤ m by omega)
      have e0 : sm w (m + 1) = sm w m + w m := rfl
      rw [show sm w (m + 1) - sm w i = w m + (sm w m - sm w i) by omega, pw_add, ← Nat.div_div_eq_div_mul, hx, Nat.add_comm, Nat.add_mul_div_right _ _ (Nat.two_pow_pos _), Nat.div_eq_of_lt (h m (by omega)), Nat.zero_add, h2]
theorem dg_hx (h : ∀ v, v < n → p v < 2 ^ w v) {v : Nat} (hv : v < n) : dg w n (hx w p n) v = p v := by
  unfold dg shf
  rw [hx_div (i := v + 1) (by omega) h, hx, Nat.add_comm, Nat.add_mul_mod_self_right, Nat.mod_eq_of_lt (h v hv)]
theorem tot_hx (h : ∀ v, v < n → p v < 2 ^ w v) : tot w n (hx w p n) = sm p n := sm_cong fun v hv => dg_hx h hv
theorem hx_cong {q : Nat → Nat} : ∀ {i : Nat}, (∀ v, v < i → p v = q v) → hx w p i = hx w q i
  | 0, _ => rfl
  | i + 1, h => by rw [hx, hx, hx_cong (i := i) (fun v hv => h v (by omega)), h i (by omega)]
theorem inb_iff : inb n w p = true ↔ ∀ v, v < n → p v < 2 ^ w v := by
  unfold inb
  rw [al_iff]
  simp
end HX
theorem l_eq {x y : Int64} : lg_cmp x y = 0 ↔ x = y := by
  unfold lg_cmp
  by_cases h1 : x > y
  · rw [if_pos h1]
    constructor
    · intro h; cases h
    · intro h; subst h; exact absurd h1 (by rw [gt_iff_lt, fa_lt64]; omega)
  · rw [if_neg h1]
    by_cases h2 : x = y
    · rw [if_pos h2]; exact ⟨fun _ => h2, fun _ => rfl⟩
    · rw [if_neg h2]
      constructor
      · intro h; cases h
      · intro h; exact absurd h h2
theorem oq_none {β : Type} {f : Option β} {g : Nat → Option β} : oq none f g = f := rfl
theorem oq_s {β : Type} {f : Option β} {g : Nat → Option β} {a : Nat} : oq (some a) f g = g a := rfl
/-- what each object of failing piles is good for -/
def FC (W : Wd) : Prop := ∀ t a, t < 6 → W.fps t = some a → ∃ P, W.fp a = some P ∧ P.target = nI t ∧ (P.isMade = 0 ∨ ∃ n E, Gr n E ∧ Cn n E ∧ t < n ∧ FR n E t P)
/-- all else stays -/
def FF (c : Nat) (W W' : Wd) : Prop := W'.pp = W.pp ∧ W'.board = W.board ∧ W'.saved = W.saved ∧ W'.hist = W.hist ∧ W'.inp = W.inp ∧ W'.cl = W.cl ∧ (∀ b, b < W.top → W'.bd b = W.bd b) ∧ Co (6 * c) (1154 * c) W W'
theorem FF.rf (W : Wd) : FF 0 W W := ⟨rfl, rfl, rfl, rfl, rfl, rfl, fun _ _ => rfl, Co.rf W⟩
theorem FF.tr {c d : Nat} {W X Y : Wd} (h : FF c W X) (k : FF d X Y) (hx : W.top ≤ X.top) : FF (c + d) W Y := by
  obtain ⟨a1, a2, a3, a4, a5, a6, a7, a8⟩ := h
  obtain ⟨b1, b2, b3, b4, b5, b6, b7, b8⟩ := k
  exact ⟨b1.trans a1, b2.trans a2, b3.trans a3, b4.trans a4, b5.trans a5, b6.trans a6, fun b q => (b7 b (by omega)).trans (a7 b q), (a8.tr b8).up (by omega) (by omega)⟩
theorem FF.up {c d : Nat} {W X : Wd} (h : FF c W X) (hd : c ≤ d) : FF d W X := by
  obtain ⟨a1, a2, a3, a4, a5, a6, a7, a8⟩ := h
  exact ⟨a1, a2, a3, a4, a5, a6, a7, a8.up (by omega) (by omega)⟩
theorem wp_fp {W : Wd} {a b : Nat} {P0 P Q : FP} {r : Nat → Int32} (h : W.fp a = some P0) (hne : ¬ b = a) (hb : W.fp b = some Q) : (wp W a P r).fp b = some Q := by
  have h1 := sfp_fp (B := P) h b
  rw [if_neg hne, hb] at h1
  exact h1
theorem wp_ff {W : Wd} {a : Nat} {P0 P : FP} {r : Nat → Int32} (h : W.fp a = some P0) : FF 0 W (wp W a P r) :=
  ⟨rfl, rfl, rfl, rfl, rfl, (cl_dyn rfl).trans (sfp_cl (B := P) h), fun b _ => (bd_dyn (X := wp W a P r) (W := W.sfp a P) rfl b).trans (sfp_bd h b), Nat.le_refl _, Nat.le_refl _, by
    rw [show (wp W a P r).top = W.top from (top_dyn (X := wp W a P r) (W := W.sfp a P) rfl).trans (sfp_top h)]; exact Nat.le_refl _⟩
section FH
variable {n E t : Nat}
theorem c43 {W : Wd} {a : Nat} {P : FP} {p : Nat → Nat} (ha : W.fp a = some P) (hP : FR n E t P) (hp : CP p W.board) (hp2 : ∀ v, v < 6 → p v < 2 ^ 31) (h : Gr n E) (hc : Cn n E) (ht : t < n) : F_43 W a = some (bI (hold n E t p)) := by
  have hn := h.2.1
  have h15 := (ds_15 h hc ht).1
  obtain ⟨ln, wc, fw, hm, li, sh, nr, mk, k, c0, rfl, hG, hM, -⟩ := hP
  obtain ⟨x, e1, hx1⟩ : ∃ x, lw (G_43_4 W a) 200000 (0, 0) = some x ∧ ((x = .inr 0 ∧ inb n (ds n E t) p = false) ∨ (x = .inl (nI (hx (ds n E t) p n)) ∧ inb n (ds n E t) p = true)) := by
    refine lw_for (n := n) (fun i st => st = (nI (hx (ds n E t) p i * 2 ^ (sm (ds n E t) n - sm (ds n E t) i)), nI i) ∧ ∀ v, v < i → p v < 2 ^ ds n E t v) ?_ ?_ ⟨by rw [hx, Nat.zero_mul]; rfl, fun v hv => absurd hv (Nat.not_lt_zero _)⟩ (by omega)
    · rintro i st hi ⟨rfl, h1⟩
      have hw := w_le h15 hi
      have hpw := pw_lt (show ds n E t i ≤ 15 by omega)
      have hp3 := hp2 i (by omega)
      have hps := pw_lt (show shf (ds n E t) n i ≤ 15 by omega)
      have h1p : 1 ≤ 2 ^ ds n E t i := Nat.one_le_two_pow
      by_cases hpi : p i < 2 ^ ds n E t i
      · left
        refine ⟨_, ?_, rfl, fun v hv => ?_⟩
        · simp only [G_43_4]
          rw [ha, Option.bind_some, mF_vertices, if_neg (nI_ge hi (by omega)), ixn (by omega) (by decide), Option.bind_some, hp i (by omega), mF_limits, mF_shifts, (hG i hi).1, (hG i hi).2.1, if_pos (nI_le (by omega) (by omega)), shl_n _ (by omega), fa_or, nI_1, Nat.shiftLeft_eq]
          congr 3
          have e2 : sm (ds n E t) n - sm (ds n E t) i = shf (ds n E t) n i + ds n E t i := by
            unfold shf
            have : sm (ds n E t) (i + 1) = sm (ds n E t) i + ds n E t i := rfl
            have := sm_le_of_lt (f := ds n E t) (show i + 1 ≤ n by omega)
            omega
          have h4 : p i * 2 ^ shf (ds n E t) n i < 2 ^ (shf (ds n E t) n i + ds n E t i) := by
            rw [pw_add, Nat.mul_comm]
            exact Nat.mul_lt_mul_of_pos_left hpi (Nat.two_pow_pos _)
          rw [e2, Nat.mul_comm (hx (ds n E t) p i), ← Nat.two_pow_add_eq_or_of_lt h4, hx, show sm (ds n E t) n - sm (ds n E t) (i + 1) = shf (ds n E t) n i from rfl, Nat.add_mul, pw_add, Nat.mul_assoc, Nat.mul_comm (2 ^ shf (ds n E t) n i), Nat.mul_comm (2 ^ ds n E t i) (hx (ds n E t) p i)]
        · rcases Nat.lt_or_ge v i with h2 | h2
          · exact h1 v h2
          · obtain rfl : v = i := by omega
            exact hpi
      · right
        refine ⟨.inr 0, ?_, .inl ⟨rfl, ?_⟩⟩
        · simp only [G_43_4]
          rw [ha, Option.bind_some, mF_vertices, if_neg (nI_ge hi (by omega)), ixn (by omega) (by decide), Option.bind_some, hp i (by omega), mF_limits, (hG i hi).1, if_neg (nI_ge (by omega) (by omega))]
        · cases hb : inb n (ds n E t) p with
          | false => rfl
          | true => exact absurd (inb_iff.mp hb i hi) hpi
    · rintro st ⟨rfl, h1⟩
      refine ⟨.inl (nI (hx (ds n E t) p n)), ?_, .inr ⟨rfl, inb_iff.mpr h1⟩⟩
      simp only [G_43_4]
      rw [ha, Option.bind_some, mF_vertices, if_pos (nI_le (Nat.le_refl _) (by omega)), Nat.sub_self, Nat.pow_zero, Nat.mul_one]
  unfold F_43 hold
  rw [e1, Option.bind_some]
  rcases hx1 with ⟨rfl, h2⟩ | ⟨rfl, h2⟩
  · rw [h2]; rfl
  · have hlt := hx_lt (w := ds n E t) (inb_iff.mp h2)
    dsimp only
    rw [ha, Option.bind_some, c40 (N_le h15 hlt), Option.bind_some, bI_ok, h2, Bool.true_and]
    congr 2
    exact hM _ hlt
theorem c37 {W : Wd} {a : Nat} {P : FP} (ha : W.fp a = some P) (hB : CB n E W.board) (h : Gr n E) (hP : P.isMade = 0 ∨ ∃ n E, Gr n E ∧ Cn n E ∧ t < n ∧ FR n E t P) : F_37 W a = some 0 ∨ (F_37 W a = some 1 ∧ FR n E t P) := by
  simp only [F_37, J_37_0_j34, J_37_0_j35]
  rw [ha, Option.bind_some]
  rcases hP with hP | ⟨n2, E2, h2, -, -, hF⟩
  · left; rw [if_pos hP]; rfl
  · have hF' := hF
    obtain ⟨ln, wc, fw, hm, li, sh, nr, mk, k, c0, rfl, -⟩ := hF
    rw [mF_isMade, mF_vertices, mF_edges, if_neg (by decide), hB.1, hB.2]
    have hn := h.2.1
    have hn2 := h2.2.1
    have hE := h.E_lt
    have hE2 := h2.E_lt
    by_cases q1 : n2 = n
    · subst q1
      rw [if_neg (fun q => q rfl)]
      by_cases q2 : E2 = E
      · subst q2
        right
        rw [if_neg (by rw [l_eq]; exact fun q => q rfl)]
        exact ⟨rfl, hF'⟩
      · left
        rw [if_pos (by rw [l_eq, fb_lN_inj (by omega) (by omega)]; exact q2)]; rfl
    · left
      rw [if_pos (by rw [nI_eq (by omega) (by omega)]; exact q1)]; rfl
/-- behind the making: looked at, made anew where it is of another graph -/
theorem c129j {W : Wd} {a : Nat} {P : FP} (ha : W.fp a = some P) (hT : P.target = nI t) (hP : P.isMade = 0 ∨ ∃ n E, Gr n E ∧ Cn n E ∧ t < n ∧ FR n E t P) (hB : CB n E W.board) (hD : CD n E W.board) (h : Gr n E) (hc : Cn n E) (ht : t < n) :
    ∃ W' P', J_129_0_j27 W a = some (a, W') ∧ W'.fp a = some P' ∧ FR n E t P' ∧ P'.target = nI t ∧ W'.fps = W.fps ∧ FF 0 W W' ∧ W'.top = W.top ∧ ∀ b Q, ¬ b = a → W.fp b = some Q → W'.fp b = some Q := by
  simp only [J_129_0_j27, J_129_0_j50]
  rw [ha, Option.bind_some]
  rcases c37 (t := t) ha hB h hP with e1 | ⟨e1, hF⟩
  · obtain ⟨P', r, e2, hF⟩ := c44 ha hT hB hD h hc ht
    refine ⟨wp W a P' r, P', ?_, xfp ha, hF, ?_, rfl, wp_ff ha, (top_dyn (X := wp W a P' r) (W := W.sfp a P') rfl).trans (sfp_top ha), fun b Q hne hb => wp_fp ha hne hb⟩
    · rw [e1, Option.bind_some, if_neg (fun q => q rfl), e2, Option.bind_some, xfp ha, Option.bind_some]
    · obtain ⟨ln, wc, fw, hm, li, sh, nr, mk, k, c0, rfl, -⟩ := hF
      rfl
  · refine ⟨W, P, ?_, ha, hF, hT, rfl, FF.rf W, rfl, fun b Q _ hb => hb⟩
    rw [e1, Option.bind_some, if_pos (by decide)]
    rfl
theorem c129 {W : Wd} (hFC : FC W) (hB : CB n E W.board) (hD : CD n E W.board) (h : Gr n E) (hc : Cn n E) (ht : t < n) (hdyn : W.top < 900000) : ∃ a W' P, F_129 W (nI t) = some (a, W') ∧ W'.fp a = some P ∧ FR n E t P ∧ FC W' ∧ FF 1 W W' ∧ W.top ≤ W'.top := by
  have hn := h.2.1
  unfold F_129
  rw [ixn (show t < 6 by omega) (by decide), Option.bind_some]
  cases hq : W.fps t with
  | some a =>
    obtain ⟨P, h1, h2, h3⟩ := hFC t a (by omega) hq
    obtain ⟨W', P', e1, f1, f2, f3, f4, f5, f7, f6⟩ := c129j h1 h2 h3 hB hD h hc ht
    refine ⟨a, W', P', ?_, f1, f2, fun t' a' ht' ha' => ?_, f5.up (by omega), by omega⟩
    · show (W.fp a).bind _ = _
      rw [h1, Option.bind_some, e1]
    · rw [f4] at ha'
      by_cases hne : a' = a
      · subst hne
        obtain ⟨Q, k1, k2, -⟩ := hFC t' a' ht' ha'
        rw [h1] at k1
        cases k1
        rw [h2, nI_eq (by omega) (by omega)] at k2
        subst k2
        exact ⟨P', f1, f3, .inr ⟨n, E, h, hc, ht, f2⟩⟩
      · obtain ⟨Q, k1, k2, k3⟩ := hFC t' a' ht' ha'
        exact ⟨Q, f6 a' Q hne k1, k2, k3⟩
  | none =>
    obtain ⟨W1, hW⟩ : ∃ W1, (W.pushF (nI t)).w_fps (va_up W.fps t (some W.top)) = W1 := ⟨_, rfl⟩
    have d0 : W1.dyn = (W.pushF (nI t)).dyn := by subst hW; rfl
    have d1 : W1.top = W.top + 6 := (top_dyn d0).trans pushF_tope
    have d2 : W1.fps = va_up W.fps t (some W.top) := by subst hW; rfl
    have d3 : W1.board = W.board := by subst hW; rfl
    have hW1 : ∀ b Q, W.fp b = some Q → W1.fp b = some Q := fun b Q hb => by rw [fp_dyn d0, pushF_fpe hdyn, if_neg (show ¬ b = W.top from fun q => by have := (at_lt (at_fp hb)).2.2; have : dsz (Sum.inr (Sum.inl Q) : Dy) = 6 := rfl; omega)]; exact hb
    have htop : W1.fp W.top = some (FP.zero (nI t)) := by rw [fp_dyn d0, pushF_fpe hdyn, if_pos rfl]
    obtain ⟨W', P', e1, f1, f2, f3, f4, f5, f7, f6⟩ := c129j htop rfl (.inl rfl) (by rw [d3]; exact hB) (by rw [d3]; exact hD) h hc ht
    refine ⟨W.top, W', P', ?_, f1, f2, fun t' a' ht' ha' => ?_, ?_⟩
    · rw [oq_none, if_pos hdyn, Option.bind_some, pushF_fpe hdyn, if_pos rfl, Option.bind_some, Option.bind_some, Option.bind_some, Option.bind_some]
      rw [show (W.pushF (nI t)).fps = W.fps from rfl, hW]
      exact e1
    · rw [f4, d2] at ha'
      unfold va_up at ha'
      by_cases hne : t' = t
      · subst hne
        rw [if_pos rfl] at ha'
        cases ha'
        exact ⟨P', f1, f3, .inr ⟨n, E, h, hc, ht, f2⟩⟩
      · rw [if_neg hne] at ha'
        obtain ⟨Q, k1, k2, k3⟩ := hFC t' a' ht' ha'
        refine ⟨Q, f6 a' Q (fun q => ?_) (hW1 a' Q k1), k2, k3⟩
        subst q
        have := (at_lt (at_fp k1)).2.2
        have : dsz (Sum.inr (Sum.inl Q) : Dy) = 6 := rfl
        omega
    · have g : FF 1 W W1 := by
        refine ⟨by subst hW; rfl, d3, by subst hW; rfl, by subst hW; rfl, by subst hW; rfl, (cl_dyn d0).trans (pushF_cl hdyn), fun b _ => by rw [bd_dyn d0]; exact pushF_bde hdyn b, ?_⟩
        exact ⟨by subst hW; exact Nat.le_refl _, by subst hW; exact Nat.le_refl _, by rw [d1]; subst hW; show W.top + 6 + W.kc ≤ W.top + (W.kc + 1 + 5); omega⟩
      exact ⟨FF.tr (c := 1) (d := 0) g f5 (by omega), by omega⟩
end FH
