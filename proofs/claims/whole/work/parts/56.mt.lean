/-! ===== THE MODEL'S TABLE ===== -/
/-- what the model's work leaves alone -/
def MF (M M' : Md) : Prop := M'.thrown = M.thrown ∧ M'.buffer = M.buffer ∧ M'.length = M.length ∧ M'.now = M.now ∧ M'.saved = M.saved ∧ M'.history = M.history ∧ M'.entries = M.entries ∧ M'.reason = M.reason ∧ M'.isSaved = M.isSaved
theorem MF.rf (M : Md) : MF M M := ⟨rfl, rfl, rfl, rfl, rfl, rfl, rfl, rfl, rfl⟩
theorem MF.tr {M X Y : Md} (h : MF M X) (k : MF X Y) : MF M Y := by
  obtain ⟨a1, a2, a3, a4, a5, a6, a7, a8, a9⟩ := h
  obtain ⟨b1, b2, b3, b4, b5, b6, b7, b8, b9⟩ := k
  exact ⟨b1.trans a1, b2.trans a2, b3.trans a3, b4.trans a4, b5.trans a5, b6.trans a6, b7.trans a7, b8.trans a8, b9.trans a9⟩
theorem MF.now {M X : Md} (h : MF M X) : X.now = M.now := h.2.2.2.1
def UN (n E t : Nat) (M : Md) : Prop := M.piles = nI (2 ^ sm (ds n E t) n) ∧ ∀ v, v < n → M.room v = nI (2 ^ ds n E t v) ∧ M.unit v = nI (2 ^ shf (ds n E t) n v)
def UNt (n E t : Nat) (pl : Int32) (rm un : Nat → Int32) : Prop := pl = nI (2 ^ sm (ds n E t) n) ∧ ∀ v, v < n → rm v = nI (2 ^ ds n E t v) ∧ un v = nI (2 ^ shf (ds n E t) n v)
theorem md_room (x : Md) (f : Nat → Int32) : ∃ y, x.w_room f = y ∧ y.room = f ∧ y.unit = x.unit ∧ y.piles = x.piles ∧ y.distances = x.distances ∧ MF x y := ⟨_, rfl, rfl, rfl, rfl, rfl, rfl, rfl, rfl, rfl, rfl, rfl, rfl, rfl, rfl⟩
theorem md_unit (x : Md) (f : Nat → Int32) : ∃ y, x.w_unit f = y ∧ y.room = x.room ∧ y.unit = f ∧ y.piles = x.piles ∧ y.distances = x.distances ∧ MF x y := ⟨_, rfl, rfl, rfl, rfl, rfl, rfl, rfl, rfl, rfl, rfl, rfl, rfl, rfl, rfl⟩
theorem md_piles (x : Md) (f : Int32) : ∃ y, x.w_piles f = y ∧ y.room = x.room ∧ y.unit = x.unit ∧ y.piles = f ∧ y.distances = x.distances ∧ MF x y := ⟨_, rfl, rfl, rfl, rfl, rfl, rfl, rfl, rfl, rfl, rfl, rfl, rfl, rfl, rfl⟩
theorem md_totals (x : Md) (f : Nat → Int32) : ∃ y, x.w_totals f = y ∧ y.totals = f ∧ y.firstOf = x.firstOf ∧ y.byTotal = x.byTotal ∧ y.room = x.room ∧ y.unit = x.unit ∧ y.piles = x.piles ∧ MF x y := ⟨_, rfl, rfl, rfl, rfl, rfl, rfl, rfl, rfl, rfl, rfl, rfl, rfl, rfl, rfl, rfl, rfl⟩
theorem md_firstOf (x : Md) (f : Nat → Int32) : ∃ y, x.w_firstOf f = y ∧ y.totals = x.totals ∧ y.firstOf = f ∧ y.byTotal = x.byTotal ∧ y.room = x.room ∧ y.unit = x.unit ∧ y.piles = x.piles ∧ MF x y := ⟨_, rfl, rfl, rfl, rfl, rfl, rfl, rfl, rfl, rfl, rfl, rfl, rfl, rfl, rfl, rfl, rfl⟩
theorem md_byTotal (x : Md) (f : Nat → Int32) : ∃ y, x.w_byTotal f = y ∧ y.totals = x.totals ∧ y.firstOf = x.firstOf ∧ y.byTotal = f ∧ y.room = x.room ∧ y.unit = x.unit ∧ y.piles = x.piles ∧ MF x y := ⟨_, rfl, rfl, rfl, rfl, rfl, rfl, rfl, rfl, rfl, rfl, rfl, rfl, rfl, rfl, rfl, rfl⟩
theorem UN.of {n E t : Nat} {x y : Md} (h : UN n E t x) (h1 : y.room = x.room) (h2 : y.unit = x.unit) (h3 : y.piles = x.piles) : UN n E t y := by
  unfold UN at h ⊢
  rw [h1, h2, h3]
  exact h
section MT
variable {n E t : Nat}
theorem m206 {M : Md} (hM : MR n E M.now) (h : Gr n E) (hc : Cn n E) (ht : t < n) : ∃ M', F_206 M (nI t) = some M' ∧ MF M M' ∧ UN n E t M' := by
  have hn := h.2.1
  have h1n := h.1
  obtain ⟨f, e0, h1, h2⟩ := m181 hM h hc ht
  have h15 := (ds_15 h hc ht).1
  have hD : ∀ M' : Md, M'.distances = f → MDi n E M' t := fun M' hq v hv => by rw [hq]; exact h1 v hv
  obtain ⟨x, e1, hF, hdist, k1, k2⟩ : ∃ x, lw (G_206_19 (nI t)) 200000 (dwn n, (M.w_distances f).w_piles 1) = some x ∧ MF M x ∧ x.distances = f ∧ x.piles = nI (2 ^ sm (ds n E t) n) ∧ ∀ v, v < n → x.room v = nI (2 ^ ds n E t v) ∧ x.unit v = nI (2 ^ shf (ds n E t) n v) := by
    refine lw_for (n := n) (fun i st => ∃ M', st = (dwn (n - i), M') ∧ MF M M' ∧ M'.distances = f ∧ M'.piles = nI (2 ^ (sm (ds n E t) n - sm (ds n E t) (n - i))) ∧ ∀ v, n - i ≤ v → v < n → M'.room v = nI (2 ^ ds n E t v) ∧ M'.unit v = nI (2 ^ shf (ds n E t) n v)) ?_ ?_ ⟨_, rfl, ⟨rfl, rfl, rfl, rfl, rfl, rfl, rfl, rfl, rfl⟩, rfl, by rw [Nat.sub_zero, Nat.sub_self]; rfl, fun v hv hv2 => by omega⟩ (by omega)
    · rintro i st hi ⟨M', rfl, k0, k1, k2, k3⟩
      left
      obtain ⟨v, hv⟩ : ∃ v, n - i = v + 1 := ⟨n - i - 1, by omega⟩
      have hvn : v < n := by omega
      have hv2 : n - (i + 1) = v := by omega
      have hs1 : sm (ds n E t) (v + 1) = sm (ds n E t) v + ds n E t v := rfl
      have hs2 := sm_le_of_lt (f := ds n E t) (show v + 1 ≤ n by omega)
      rw [hv] at k2 k3
      obtain ⟨X, hX, x1, x2, x3, x4, x5⟩ := md_room M' (upd M'.room v (nI (2 ^ ds n E t v)))
      obtain ⟨Y, hY, y1, y2, y3, y4, y5⟩ := md_unit X (upd X.unit v X.piles)
      obtain ⟨Z, hZ, w1, w2, w3, w4, w5⟩ := md_piles Y (Y.piles * Y.room v)
      refine ⟨(dwn v, Z), ?_, Z, by rw [hv2], k0.tr (x5.tr (y5.tr w5)), by rw [w4, y4, x4, k1], ?_, fun u hu hu2 => ?_⟩
      · rw [hv]
        simp only [G_206_19]
        rw [if_neg (dwn_s (by omega)), show dwn (v + 1) = nI v from rfl, m183 (hD M' k1) hn (by omega) hvn, Option.bind_some, ixn (by omega) (by decide), Option.bind_some, sh1 (ds_le6 n E t v), hX, Option.bind_some, hY, Option.bind_some, hZ, Option.bind_some, dwn_m1]
      · rw [w3, y3, x3, y1, x1, pk_us, k2, pk_mul, ← Nat.pow_add, hv2]
        congr 2
        omega
      · rw [w1, y1, x1, w2, y2, x2, x3]
        by_cases q : u = v
        · subst q; rw [pk_us, pk_us, k2]; exact ⟨rfl, rfl⟩
        · rw [pk_un q, pk_un q]; exact k3 u (by omega) hu2
    · rintro st ⟨M', rfl, k0, k1, k2, k3⟩
      refine ⟨M', ?_, k0, k1, ?_, fun v hv => k3 v (by omega) hv⟩
      · rw [Nat.sub_self]
        simp only [G_206_19]
        rw [if_pos dwn_0]
      · rw [k2, Nat.sub_self]; rfl
  refine ⟨x, ?_, hF, k1, k2⟩
  unfold F_206
  rw [e0, Option.bind_some, Option.bind_some, ix0, Option.bind_some]
  rw [show ((M.w_distances f).w_piles 1).now = M.now from rfl, hM.1, dwn_sub h1n, e1]
  rfl
theorem m205 {M : Md} (hU : UN n E t M) (hn : n ≤ 6) (h15 : sm (ds n E t) n ≤ 15) {c v : Nat} (hc : c < 32768) (hv : v < n) : F_205 M (nI c) (nI v) = some (nI (dg (ds n E t) n c v)) := by
  have hw := w_le h15 hv
  have p1 := pw_lt (show shf (ds n E t) n v ≤ 15 by omega)
  have p2 := pw_lt (show ds n E t v ≤ 15 by omega)
  have q1 := Nat.two_pow_pos (shf (ds n E t) n v)
  have q2 := Nat.two_pow_pos (ds n E t v)
  have hd : c / 2 ^ shf (ds n E t) n v ≤ c := Nat.div_le_self _ _
  unfold F_205
  rw [ixn (by omega) (by decide), Option.bind_some, (hU.2 v hv).1, (hU.2 v hv).2, if_neg (nI_ne0 q1 (by omega)), if_neg (nI_ne0 q2 (by omega)), pk_div (by omega) q1 (by omega), pk_rem (by omega) q2 (by omega)]
  rfl
/-! rank: by pebbles, then by number -/
theorem ct_le {P : Nat → Bool} : ∀ n, ct P n ≤ n
  | 0 => Nat.le_refl _
  | n + 1 => by have := ct_le (P := P) n; rw [ct]; split <;> omega
theorem ct_sub {P Q : Nat → Bool} : ∀ {n : Nat}, (∀ i, i < n → P i = true → Q i = true) → ct P n ≤ ct Q n
  | 0, _ => Nat.le_refl _
  | n + 1, h => by
    have h1 := ct_sub (n := n) (fun i hi => h i (by omega))
    rw [ct, ct]
    by_cases hp : P n = true
    · rw [if_pos hp, if_pos (h n (by omega) hp)]; omega
    · rw [if_neg hp]; omega
theorem ct_lt {P Q : Nat → Bool} {k : Nat} : ∀ {n : Nat}, (∀ i, i < n → P i = true → Q i = true) → k < n → ¬ P k = true → Q k = true → ct P n < ct Q n
  | n + 1, h, hk, h1, h2 => by
    have h3 := ct_sub (n := n) (fun i hi => h i (by omega))
    rw [ct, ct]
    rcases Nat.lt_or_ge k n with q | q
    · have h4 := ct_lt (n := n) (fun i hi => h i (by omega)) q h1 h2
      by_cases hp : P n = true
      · rw [if_pos hp, if_pos (h n (by omega) hp)]; omega
      · rw [if_neg hp]; omega
    · obtain rfl : k = n := by omega
      rw [if_neg h1, if_pos h2]; omega
theorem ct_lt_n {P : Nat → Bool} {k n : Nat} (hk : k < n) (h1 : ¬ P k = true) : ct P n < n := by
  have h2 : ct P n < ct (fun _ => true) n := ct_lt (fun _ _ _ => rfl) hk h1 rfl
  have := ct_le (P := fun _ => true) n
  omega
theorem ct_or {P Q : Nat → Bool} : ∀ {n : Nat}, (∀ i, i < n → ¬ (P i = true ∧ Q i = true)) → ct (fun i => P i || Q i) n = ct P n + ct Q n
  | 0, _ => rfl
  | n + 1, h => by
    have h1 := ct_or (n := n) (fun i hi => h i (by omega))
    have h2 := h n (by omega)
    rw [ct, ct, ct, h1]
    cases hp : P n <;> cases hq : Q n <;> simp_all <;> omega
theorem ct_cong {P Q : Nat → Bool} : ∀ {n : Nat}, (∀ i, i < n → P i = Q i) → ct P n = ct Q n
  | 0, _ => rfl
  | n + 1, h => by rw [ct, ct, ct_cong (n := n) (fun i hi => h i (by omega)), h n (by omega)]
/-- below a bound: the rest doesn't count -/
theorem ct_cut {P : Nat → Bool} {i : Nat} : ∀ {n : Nat}, i ≤ n → ct (fun d => P d && decide (d < i)) n = ct P i
  | 0, h => by obtain rfl : i = 0 := by omega
               rfl
  | n + 1, h => by
    by_cases q : i = n + 1
    · subst q
      exact ct_cong fun d hd => by rw [decide_eq_true hd, Bool.and_true]
    · rw [ct, ct_cut (n := n) (by omega), decide_eq_false (show ¬ n < i by omega), Bool.and_false]
      rfl
def rk (T : Nat → Nat) (N c : Nat) : Nat := ct (fun d => decide (T d < T c) || (decide (T d = T c) && decide (d < c))) N
theorem rk_lt {T : Nat → Nat} {N c d : Nat} (hc : c < N) (h : T c < T d ∨ (T c = T d ∧ c < d)) : rk T N c < rk T N d := by
  refine ct_lt (k := c) (fun i _ hi => ?_) hc ?_ ?_
  · simp only [Bool.or_eq_true, Bool.and_eq_true, decide_eq_true_eq] at hi ⊢
    omega
  · simp
  · simp only [Bool.or_eq_true, Bool.and_eq_true, decide_eq_true_eq]
    exact h
theorem rk_N {T : Nat → Nat} {N c : Nat} (hc : c < N) : rk T N c < N := ct_lt_n hc (by simp)
theorem rk_inj {T : Nat → Nat} {N c d : Nat} (hc : c < N) (hd : d < N) (h : rk T N c = rk T N d) : c = d := by
  rcases Nat.lt_trichotomy c d with q | q | q
  · exfalso
    rcases Nat.lt_trichotomy (T c) (T d) with z | z | z
    · have := rk_lt (T := T) hc (.inl z); omega
    · have := rk_lt (T := T) hc (.inr ⟨z, q⟩); omega
    · have := rk_lt (T := T) hd (.inl z); omega
  · exact q
  · exfalso
    rcases Nat.lt_trichotomy (T c) (T d) with z | z | z
    · have := rk_lt (T := T) hc (.inl z); omega
    · have := rk_lt (T := T) hd (.inr ⟨z.symm, q⟩); omega
    · have := rk_lt (T := T) hd (.inl z); omega
theorem rk_onto {T : Nat → Nat} {N k : Nat} (hk : k < N) : ∃ c, c < N ∧ rk T N c = k :=
  fb_onto (f := rk T N) (fun i hi => rk_N hi) (fun i j hij hj hE => by have := rk_inj (by omega) hj hE; omega) hk
theorem rk_split {T : Nat → Nat} {N c : Nat} (hc : c < N) : rk T N c = ct (fun d => decide (T d < T c)) N + ct (fun d => decide (T d = T c)) c := by
  unfold rk
  rw [ct_or fun i _ => ?_, ct_cut (P := fun d => decide (T d = T c)) (by omega)]
  simp only [Bool.and_eq_true, decide_eq_true_eq]
  omega
theorem m207 {M : Md} (hM : MR n E M.now) (hU : UN n E t M) (h : Gr n E) (hc : Cn n E) (ht : t < n) : ∃ M', F_207 M = some M' ∧ MF M M' ∧ UN n E t M' ∧ (∀ c, c < 2 ^ sm (ds n E t) n → M'.totals c = nI (tot (ds n E t) n c)) ∧ ∀ c, c < 2 ^ sm (ds n E t) n → M'.byTotal (rk (tot (ds n E t) n) (2 ^ sm (ds n E t) n) c) = nI c := by
  have hn := h.2.1
  have h15 := (ds_15 h hc ht).1
  have hN := pw_lt h15
  have hN' : 2 ^ sm (ds n E t) n ≤ 32768 := hN
  obtain ⟨T, hT⟩ : ∃ T, tot (ds n E t) n = T := ⟨_, rfl⟩
  obtain ⟨N, hNe⟩ : ∃ N, 2 ^ sm (ds n E t) n = N := ⟨_, rfl⟩
  have hT57 : ∀ c, T c ≤ 57 := fun c => by rw [← hT]; exact tot_57 h hc ht
  rw [hNe] at hN'
  -- zeros
  obtain ⟨M1, e1, f1, u1, z1'⟩ : ∃ x, lw (G_207_2) 200000 (0, M) = some x ∧ MF M x ∧ UN n E t x ∧ ∀ j, j < 65 → x.firstOf j = 0 := by
    refine lw_for (n := 65) (fun i st => ∃ x, st = (nI i, x) ∧ MF M x ∧ UN n E t x ∧ ∀ j, j < i → x.firstOf j = 0) ?_ ?_ ⟨M, rfl, MF.rf M, hU, fun j hj => absurd hj (Nat.not_lt_zero _)⟩ (by omega)
    · rintro i st hi ⟨x, rfl, k1, k2, k3⟩
      left
      obtain ⟨Y, hY, y1, y2, y3, y4, y5, y6, y7⟩ := md_firstOf x (upd x.firstOf i 0)
      refine ⟨(nI (i + 1), Y), ?_, Y, rfl, k1.tr y7, k2.of y4 y5 y6, fun j hj => ?_⟩
      · simp only [G_207_2]
        rw [if_neg (show ¬ (64 : Int32) < nI i from nI_nlt (b := i) (a := 64) (by omega) (by decide)), ixn hi (by decide), Option.bind_some, hY, Option.bind_some, nI_1]
      · rw [y2]
        by_cases q : j = i
        · subst q; exact pk_us
        · rw [pk_un q]; exact k3 j (by omega)
    · rintro st ⟨x, rfl, k1, k2, k3⟩
      refine ⟨x, ?_, k1, k2, k3⟩
      simp only [G_207_2]
      rw [if_pos (show (64 : Int32) < nI 65 by decide)]
  -- sums
  have inner : ∀ (x : Md) (c : Nat), MF M x → UN n E t x → c < N → lw (G_207_35 x (nI c)) 200000 (0, 0) = some (nI (T c)) := by
    intro x c k1 k2 hcN
    refine (lw_seq (fun i => (nI (sm (dg (ds n E t) n c) i), nI i)) (n := n) (x := nI (sm (dg (ds n E t) n c) n)) ?_ ?_ (by omega)).trans (by rw [← hT]; rfl)
    · intro i hi
      simp only [G_207_35]
      rw [ix0, Option.bind_some, k1.now, hM.1, if_neg (nI_ge hi (by omega)), m205 k2 hn h15 (by omega) hi, Option.bind_some, nI_add, nI_1]
      rfl
    · simp only [G_207_35]
      rw [ix0, Option.bind_some, k1.now, hM.1, if_pos (nI_le (Nat.le_refl _) (by omega))]
  obtain ⟨M2, e2, f2, u2, t2, c2⟩ : ∃ x, lw (G_207_23) 200000 (0, M1) = some x ∧ MF M x ∧ UN n E t x ∧ (∀ c, c < N → x.totals c = nI (T c)) ∧ ∀ j, j < 65 → x.firstOf j = nI (ct (fun c => decide (T c + 1 = j)) N) := by
    refine lw_for (n := N) (fun i st => ∃ x, st = (nI i, x) ∧ MF M x ∧ UN n E t x ∧ (∀ c, c < i → x.totals c = nI (T c)) ∧ ∀ j, j < 65 → x.firstOf j = nI (ct (fun c => decide (T c + 1 = j)) i)) ?_ ?_ ⟨M1, rfl, f1, u1, fun j hj => absurd hj (Nat.not_lt_zero _), fun j hj => z1' j hj⟩ (by omega)
    · rintro i st hi ⟨x, rfl, k1, k2, k3, k4⟩
      left
      have := hT57 i
      obtain ⟨X, hX, x1, x2, x3, x4, x5, x6, x7⟩ := md_totals x (upd x.totals i (nI (T i)))
      obtain ⟨Y, hY, y1, y2, y3, y4, y5, y6, y7⟩ := md_firstOf X (upd X.firstOf (T i + 1) (X.firstOf (T i + 1) + 1))
      refine ⟨(nI (i + 1), Y), ?_, Y, rfl, k1.tr (x7.tr y7), (k2.of x4 x5 x6).of y4 y5 y6, fun c hcN => ?_, fun j hj => ?_⟩
      · simp only [G_207_23]
        rw [k2.1, hNe, if_neg (nI_ge hi (by omega)), inner x i k1 k2 hi, Option.bind_some, ixn (by omega) (by decide), Option.bind_some, hX, Option.bind_some, nI_1, ixn (by omega) (by decide), Option.bind_some, hY, Option.bind_some, nI_1]
      · rw [y1, x1]
        by_cases q : c = i
        · subst q; exact pk_us
        · rw [pk_un q]; exact k3 c (by omega)
      · rw [y2, x2, ct]
        by_cases q : j = T i + 1
        · subst q; rw [pk_us, k4 _ hj, nI_1, decide_eq_true rfl]; rfl
        · rw [pk_un q, k4 j hj, if_neg (by rw [decide_eq_true_eq]; omega), Nat.add_zero]
    · rintro st ⟨x, rfl, k1, k2, k3, k4⟩
      refine ⟨x, ?_, k1, k2, k3, k4⟩
      simp only [G_207_23]
      rw [k2.1, hNe, if_pos (nI_le (Nat.le_refl _) (by omega))]
  have cnt : ∀ j, ct (fun c => decide (T c + 1 ≤ j + 1)) N = ct (fun c => decide (T c + 1 ≤ j)) N + ct (fun c => decide (T c + 1 = j + 1)) N := by
    intro j
    rw [← ct_or]
    · exact ct_cong fun c _ => by
        apply bl_tr
        simp only [Bool.or_eq_true, decide_eq_true_eq]
        omega
    · intro c _
      simp only [decide_eq_true_eq]
      omega
  obtain ⟨M3, e3, f3, u3, t3, c3⟩ : ∃ x, lw (G_207_87) 200000 (1, M2) = some x ∧ MF M x ∧ UN n E t x ∧ (∀ c, c < N → x.totals c = nI (T c)) ∧ ∀ j, j < 65 → x.firstOf j = nI (ct (fun c => decide (T c + 1 ≤ j)) N) := by
    refine lw_for (n := 64) (fun i st => ∃ x, st = (nI (i + 1), x) ∧ MF M x ∧ UN n E t x ∧ (∀ c, c < N → x.totals c = nI (T c)) ∧ (∀ j, j ≤ i → x.firstOf j = nI (ct (fun c => decide (T c + 1 ≤ j)) N)) ∧ ∀ j, i < j → j < 65 → x.firstOf j = nI (ct (fun c => decide (T c + 1 = j)) N)) ?_ ?_ ⟨M2, rfl, f2, u2, t2, fun j hj => ?_, fun j _ hj => c2 j hj⟩ (by omega)
    · rintro i st hi ⟨x, rfl, k1, k2, k3, k4, k5⟩
      left
      obtain ⟨Y, hY, y1, y2, y3, y4, y5, y6, y7⟩ := md_firstOf x (upd x.firstOf (i + 1) (x.firstOf (i + 1) + x.firstOf i))
      refine ⟨(nI (i + 1 + 1), Y), ?_, Y, rfl, k1.tr y7, k2.of y4 y5 y6, by rw [y1]; exact k3, fun j hj => ?_, fun j hj hj2 => ?_⟩
      · simp only [G_207_87]
        rw [if_neg (show ¬ (64 : Int32) < nI (i + 1) from nI_nlt (b := i + 1) (a := 64) (by omega) (by decide)), ixn (by omega) (by decide), Option.bind_some, nI_pred, ixn (by omega) (by decide), Option.bind_some, hY, Option.bind_some, nI_1]
      · rw [y2]
        by_cases q : j = i + 1
        · subst q
          rw [pk_us, k5 (i + 1) (by omega) (by omega), k4 i (Nat.le_refl _), nI_add, cnt i, Nat.add_comm]
        · rw [pk_un q]; exact k4 j (by omega)
      · rw [y2, pk_un (by omega)]; exact k5 j (by omega) hj2
    · rintro st ⟨x, rfl, k1, k2, k3, k4, k5⟩
      refine ⟨x, ?_, k1, k2, k3, fun j hj => k4 j (by omega)⟩
      simp only [G_207_87]
      rw [if_pos (show (64 : Int32) < nI (64 + 1) by decide)]
    · obtain rfl : j = 0 := by omega
      rw [c2 0 (by omega), ct_none fun c _ => ?_, ct_none fun c _ => ?_]
      · exact decide_eq_false (by omega)
      · exact decide_eq_false (by omega)
  obtain ⟨M4, e4, f4, u4, t4, b4⟩ : ∃ x, lw (G_207_118) 200000 (0, M3) = some x ∧ MF M x ∧ UN n E t x ∧ (∀ c, c < N → x.totals c = nI (T c)) ∧ ∀ c, c < N → x.byTotal (rk T N c) = nI c := by
    refine lw_for (n := N) (fun i st => ∃ x, st = (nI i, x) ∧ MF M x ∧ UN n E t x ∧ (∀ c, c < N → x.totals c = nI (T c)) ∧ (∀ j, j < 64 → x.firstOf j = nI (ct (fun c => decide (T c < j)) N + ct (fun c => decide (T c = j)) i)) ∧ ∀ c, c < i → x.byTotal (rk T N c) = nI c) ?_ ?_ ⟨M3, rfl, f3, u3, t3, fun j hj => by rw [c3 j (by omega)]; rfl, fun c hcN => absurd hcN (Nat.not_lt_zero _)⟩ (by omega)
    · rintro i st hi ⟨x, rfl, k1, k2, k3, k4, k5⟩
      left
      have hti := hT57 i
      have hrk := rk_split (T := T) hi
      have hrN := rk_N (T := T) hi
      obtain ⟨X, hX, x1, x2, x3, x4, x5, x6, x7⟩ := md_byTotal x (upd x.byTotal (rk T N i) (nI i))
      obtain ⟨Y, hY, y1, y2, y3, y4, y5, y6, y7⟩ := md_firstOf X (upd X.firstOf (T i) (X.firstOf (T i) + 1))
      refine ⟨(nI (i + 1), Y), ?_, Y, rfl, k1.tr (x7.tr y7), (k2.of x4 x5 x6).of y4 y5 y6, by rw [y1, x1]; exact k3, fun j hj => ?_, fun c hcN => ?_⟩
      · simp only [G_207_118]
        rw [k2.1, hNe, if_neg (nI_ge hi (by omega)), ixn (by omega) (by decide), Option.bind_some, k3 i hi, ixn (by omega) (by decide), Option.bind_some, k4 (T i) (by omega), ← hrk, ixn (by omega) (by decide), Option.bind_some, hX, Option.bind_some, x1, k3 i hi, ixn (by omega) (by decide), Option.bind_some, hY, Option.bind_some, nI_1]
      · rw [y2, x2, ct]
        by_cases q : j = T i
        · subst q; rw [pk_us, k4 _ hj, nI_1, decide_eq_true rfl]; rfl
        · rw [pk_un q, k4 j hj, if_neg (by rw [decide_eq_true_eq]; omega), Nat.add_zero]
      · rw [y3, x3]
        by_cases q : c = i
        · subst q; exact pk_us
        · rw [pk_un (fun z => q (rk_inj (by omega) hi z))]; exact k5 c (by omega)
    · rintro st ⟨x, rfl, k1, k2, k3, k4, k5⟩
      refine ⟨x, ?_, k1, k2, k3, k5⟩
      simp only [G_207_118]
      rw [k2.1, hNe, if_pos (nI_le (Nat.le_refl _) (by omega))]
  rw [hT, hNe]
  refine ⟨M4, ?_, f4, u4, t4, b4⟩
  unfold F_207
  rw [e1, Option.bind_some, e2, Option.bind_some, e3, Option.bind_some, e4]
  rfl
end MT
