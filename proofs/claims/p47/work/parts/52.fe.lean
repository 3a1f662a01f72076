/-! ===== FAILING PILES: a level more, all levels ===== -/
theorem ds_pa {n E t : Nat} (h : Gr n E) (hc : Cn n E) (ht : t < n) : ∃ par, Pa n (ad E) (ds n E t) par := by
  have key : ∀ v, ∃ p, v < n → 1 ≤ ds n E t v → p < n ∧ ad E v p = true ∧ ds n E t p + 1 = ds n E t v := by
    intro v
    by_cases hv : v < n ∧ 1 ≤ ds n E t v
    · have h1 := hc.ds h ht hv.1
      have hn := h.2.1
      obtain ⟨w, h2, h3, h4, h5⟩ := ds_par h ht (fun q => by subst q; have := hv.2; rw [ds_self] at this; omega) (show ds n E t v < 6 by omega)
      exact ⟨w, fun _ _ => ⟨h2, h4, h5⟩⟩
    · exact ⟨0, fun q1 q2 => absurd ⟨q1, q2⟩ hv⟩
  obtain ⟨par, hp⟩ := Classical.axiomOfChoice key
  exact ⟨par, fun v hv hw => hp v hv hw⟩
theorem ds_u {n E t : Nat} : ∀ v, v < n → ds n E t v = 0 → v = t := fun v _ h => (ds_zero h).symm
theorem ds_15 {n E t : Nat} (h : Gr n E) (hc : Cn n E) (ht : t < n) : sm (ds n E t) n ≤ 15 ∧ sm (fun v => 2 ^ ds n E t v - 1) n ≤ 57 := by
  obtain ⟨par, hp⟩ := ds_pa h hc ht
  exact w_sum hp ht ds_self ds_u h.2.1
theorem tot_57 {n E t c : Nat} (h : Gr n E) (hc : Cn n E) (ht : t < n) : tot (ds n E t) n c ≤ 57 := by
  have h1 := (ds_15 h hc ht).2
  have h2 : ∀ m, sm (dg (ds n E t) n c) m ≤ sm (fun v => 2 ^ ds n E t v - 1) m := fun m => by
    induction m with
    | zero => exact Nat.le_refl _
    | succ m ih =>
      have := dg_lt (w := ds n E t) (n := n) c m
      rw [sm, sm]; omega
  exact Nat.le_trans (h2 n) h1
theorem ds_few {n E t : Nat} (h : Gr n E) (hc : Cn n E) (ht : t < n) {m : Nat} {r : Nat → Nat} (hr : ∀ i j, i < j → j < m → ¬ r i = r j) (hf : ∀ i, i < m → r i < 2 ^ sm (ds n E t) n ∧ fa n (ad E) (ds n E t) (r i) = true) : m ≤ 2048 := by
  obtain ⟨par, hp⟩ := ds_pa h hc ht
  exact fa_few h.ir hp ht ds_self ds_u h.2.1 hr hf
def MKf (mk : Nat → Int32) (c : Nat) : Bool := bt (mk (c / 32)) (c % 32)
/-- the last vertex with pebbles -/
theorem last_nz {w : Nat → Nat} {n c : Nat} (h : 1 ≤ tot w n c) : ∃ v, v < n ∧ 1 ≤ dg w n c v ∧ ∀ u, v < u → u < n → dg w n c u = 0 := by
  have h1 : ∃ i, i < n ∧ 1 ≤ dg w n c i := by
    refine Classical.byContradiction fun h2 => ?_
    have h3 : ∀ m, m ≤ n → sm (dg w n c) m = 0 := fun m => by
      induction m with
      | zero => intro _; rfl
      | succ m ih =>
        intro hm
        have h4 : ¬ 1 ≤ dg w n c m := fun h5 => h2 ⟨m, by omega, h5⟩
        rw [sm, ih (by omega)]; omega
    have := h3 n (Nat.le_refl _)
    unfold tot at h; omega
  obtain ⟨i, h2, h3, h4⟩ := fb_last h1
  exact ⟨i, h2, h3, fun u hu hn => by have := h4 u hu hn; omega⟩
/-- the state while a level is being made: codes from..i done, of code i the vertices from k on -/
def EI (n E t K fr to i k e : Nat) (r0 : Nat → Nat) (row0 mk row : Nat → Int32) : Prop :=
  ∃ r : Nat → Nat, to ≤ e ∧ e ≤ 2048 ∧ (∀ x, x < to → r x = r0 x ∧ row x = row0 x) ∧
    (∀ x, x < e → row x = nI (r x) ∧ r x < 2 ^ sm (ds n E t) n ∧ fa n (ad E) (ds n E t) (r x) = true) ∧
    (∀ x y, x < y → y < e → ¬ r x = r y) ∧ (∀ x y, to ≤ x → x < y → y < e → r x < r y) ∧
    (∀ x, to ≤ x → x < e → tot (ds n E t) n (r x) = K + 1 ∧ ∃ j v, (fr ≤ j ∧ j < i ∨ j = i ∧ k ≤ v) ∧ v < n ∧ r x = r0 j + 2 ^ shf (ds n E t) n v ∧ r0 j % 2 ^ shf (ds n E t) n v = 0 ∧ 1 ≤ ds n E t v) ∧
    (∀ j v, (fr ≤ j ∧ j < i ∨ j = i ∧ k ≤ v) → v < n → r0 j % 2 ^ shf (ds n E t) n v = 0 → dg (ds n E t) n (r0 j) v + 1 < 2 ^ ds n E t v → fa n (ad E) (ds n E t) (r0 j + 2 ^ shf (ds n E t) n v) = true → ∃ x, to ≤ x ∧ x < e ∧ r x = r0 j + 2 ^ shf (ds n E t) n v) ∧
    (∀ c, c < 2 ^ sm (ds n E t) n → tot (ds n E t) n c ≤ K → MKf mk c = fa n (ad E) (ds n E t) c) ∧
    (∀ c, c < 2 ^ sm (ds n E t) n → tot (ds n E t) n c = K + 1 → (MKf mk c = true ↔ ∃ x, to ≤ x ∧ x < e ∧ r x = c)) ∧
    (∀ c, c < 2 ^ sm (ds n E t) n → K + 1 < tot (ds n E t) n c → MKf mk c = false)
/-- what is known of the level before -/
def L0 (n E t K fr to : Nat) (r0 : Nat → Nat) (row0 : Nat → Int32) : Prop :=
  fr ≤ to ∧ to ≤ 2048 ∧ (∀ x, x < to → row0 x = nI (r0 x) ∧ r0 x < 2 ^ sm (ds n E t) n ∧ fa n (ad E) (ds n E t) (r0 x) = true ∧ tot (ds n E t) n (r0 x) ≤ K) ∧
    (∀ x y, x < y → y < to → ¬ r0 x = r0 y) ∧ (∀ x y, fr ≤ x → x < y → y < to → r0 x < r0 y) ∧ (∀ x, fr ≤ x → x < to → tot (ds n E t) n (r0 x) = K) ∧
    (∀ c, c < 2 ^ sm (ds n E t) n → fa n (ad E) (ds n E t) c = true → tot (ds n E t) n c = K → ∃ x, fr ≤ x ∧ x < to ∧ r0 x = c)
section FE
variable {n E t : Nat}
theorem EI.add {K fr to i v e : Nat} {r0 : Nat → Nat} {row0 mk row : Nat → Int32} (h : Gr n E) (hc : Cn n E) (ht : t < n) (hL : L0 n E t K fr to r0 row0) (hi : fr ≤ i ∧ i < to) (hv : v < n) (hz : ∀ u, v < u → u < n → dg (ds n E t) n (r0 i) u = 0)
    (I : EI n E t K fr to i (v + 1) e r0 row0 mk row) (hr : dg (ds n E t) n (r0 i) v + 1 < 2 ^ ds n E t v) (hf : fa n (ad E) (ds n E t) (r0 i + 2 ^ shf (ds n E t) n v) = true) :
    e < 2048 ∧ ∀ mk2 : Nat → Int32, (∀ d, d < 32768 → MKf mk2 d = (MKf mk d || decide (d = r0 i + 2 ^ shf (ds n E t) n v))) → EI n E t K fr to i v (e + 1) r0 row0 mk2 (upd row e (nI (r0 i + 2 ^ shf (ds n E t) n v))) := by
  obtain ⟨r, e1, e2, e3, e4, e5, e6, e7, e8, e9, e10, e11⟩ := I
  obtain ⟨l1, l2, l3, l4, l5, l6, l7⟩ := hL
  have h15 := (ds_15 h hc ht).1
  obtain ⟨p1, p2, p3, p4⟩ := l3 i hi.2
  have htot := l6 i hi.1 hi.2
  have hLN := top_bound p2 hv hr
  have hLt := tot_add hv hr
  have hmod := mod_zero hv p2 hz
  have hw1 : 1 ≤ ds n E t v := by
    rcases Nat.lt_or_ge 0 (ds n E t v) with q | q
    · exact q
    · rw [show ds n E t v = 0 by omega, Nat.pow_zero] at hr; omega
  generalize hLd : r0 i + 2 ^ shf (ds n E t) n v = L at *
  have hlt : ∀ x, to ≤ x → x < e → r x < L := by
    intro x hx hx2
    obtain ⟨q1, j, v', q2, q3, q4, q5, q6⟩ := e7 x hx hx2
    have hA : 0 < 2 ^ shf (ds n E t) n v := Nat.two_pow_pos _
    rcases q2 with ⟨q7, q8⟩ | ⟨q7, q8⟩
    · have := ord_gap q3 (l3 j (by omega)).2.1 p2 (by rw [l6 j q7 (by omega), htot]) (l5 j i q7 q8 hi.2) q5
      omega
    · subst q7
      have hs := shf_lt (w := ds n E t) (n := n) (show v < v' by omega) q3
      have : 2 ^ shf (ds n E t) n v' < 2 ^ shf (ds n E t) n v := Nat.pow_lt_pow_right (by decide) (by omega)
      omega
  have hne : ∀ x, x < e → ¬ r x = L := by
    intro x hx hq
    rcases Nat.lt_or_ge x to with q | q
    · have := (l3 x q).2.2.2
      rw [← (e3 x q).1, hq] at this
      omega
    · have := hlt x q hx; omega
  obtain ⟨r', hre, hrn⟩ : ∃ r' : Nat → Nat, r' e = L ∧ ∀ x, ¬ x = e → r' x = r x := ⟨fun x => if x = e then L else r x, if_pos rfl, fun x q => if_neg q⟩
  have hr2 : ∀ x y, x < y → y < e + 1 → ¬ r' x = r' y := by
    intro x y hxy hy
    rw [hrn x (by omega)]
    by_cases q : y = e
    · rw [q, hre]; exact hne x (by omega)
    · rw [hrn y q]; exact e5 x y hxy (by omega)
  have hfew : e + 1 ≤ 2048 := by
    refine ds_few h hc ht (r := r') hr2 fun x hx => ?_
    by_cases q : x = e
    · rw [q, hre]; exact ⟨hLN, hf⟩
    · rw [hrn x q]; exact (e4 x (by omega)).2
  refine ⟨by omega, fun mk2 hmk => ⟨r', by omega, hfew, fun x hx => ?_, fun x hx => ?_, hr2, fun x y hx hxy hy => ?_, fun x hx hx2 => ?_, fun j v' hj hv' hm hr' hf' => ?_, fun c hcN hct => ?_, fun c hcN hct => ?_, fun c hcN hct => ?_⟩⟩
  · rw [hrn x (by omega), pk_un (by omega)]
    exact e3 x hx
  · by_cases q : x = e
    · subst q
      rw [hre, pk_us]
      exact ⟨rfl, hLN, hf⟩
    · rw [hrn x q, pk_un q]
      exact e4 x (by omega)
  · rw [hrn x (by omega)]
    by_cases q : y = e
    · rw [q, hre]; exact hlt x hx (by omega)
    · rw [hrn y q]; exact e6 x y hx hxy (by omega)
  · by_cases q : x = e
    · rw [q, hre]
      exact ⟨by omega, i, v, .inr ⟨rfl, Nat.le_refl _⟩, hv, hLd.symm, hmod, hw1⟩
    · rw [hrn x q]
      obtain ⟨q1, j, v', q2, q3⟩ := e7 x hx (by omega)
      refine ⟨q1, j, v', ?_, q3⟩
      rcases q2 with q2 | ⟨q2, q4⟩
      · exact .inl q2
      · exact .inr ⟨q2, by omega⟩
  · by_cases q : j = i ∧ v' = v
    · obtain ⟨rfl, rfl⟩ := q
      exact ⟨e, e1, by omega, by rw [hre, hLd]⟩
    · obtain ⟨x, q1, q2, q3⟩ := e8 j v' (by
        rcases hj with hj | ⟨hj, hj2⟩
        · exact .inl hj
        · refine .inr ⟨hj, ?_⟩
          rcases Nat.lt_or_ge v v' with q5 | q5
          · exact q5
          · exact absurd ⟨hj, by omega⟩ q) hv' hm hr' hf'
      exact ⟨x, q1, by omega, by rw [hrn x (by omega)]; exact q3⟩
  · rw [hmk c (N_le h15 hcN), decide_eq_false (fun q => by subst q; omega), Bool.or_false]
    exact e9 c hcN hct
  · rw [hmk c (N_le h15 hcN), Bool.or_eq_true, decide_eq_true_eq, e10 c hcN hct]
    constructor
    · rintro (⟨x, q1, q2, q3⟩ | q)
      · exact ⟨x, q1, by omega, by rw [hrn x (by omega)]; exact q3⟩
      · exact ⟨e, e1, by omega, by rw [hre, q]⟩
    · rintro ⟨x, q1, q2, q3⟩
      by_cases q : x = e
      · rw [q, hre] at q3; exact .inr q3.symm
      · rw [hrn x q] at q3; exact .inl ⟨x, q1, by omega, q3⟩
  · rw [hmk c (N_le h15 hcN), e11 c hcN hct, Bool.false_or, decide_eq_false_iff_not]
    intro q; subst q; omega
theorem EI.skip {K fr to i v e : Nat} {r0 : Nat → Nat} {row0 mk row : Nat → Int32} (I : EI n E t K fr to i (v + 1) e r0 row0 mk row) (hno : r0 i % 2 ^ shf (ds n E t) n v = 0 → dg (ds n E t) n (r0 i) v + 1 < 2 ^ ds n E t v → fa n (ad E) (ds n E t) (r0 i + 2 ^ shf (ds n E t) n v) = true → False) : EI n E t K fr to i v e r0 row0 mk row := by
  obtain ⟨r, e1, e2, e3, e4, e5, e6, e7, e8, e9, e10, e11⟩ := I
  refine ⟨r, e1, e2, e3, e4, e5, e6, fun x hx hx2 => ?_, fun j v' hj hv' hm hr' hf' => ?_, e9, e10, e11⟩
  · obtain ⟨q1, j, v', q2, q3⟩ := e7 x hx hx2
    refine ⟨q1, j, v', ?_, q3⟩
    rcases q2 with q2 | ⟨q2, q4⟩
    · exact .inl q2
    · exact .inr ⟨q2, by omega⟩
  · by_cases q : j = i ∧ v' = v
    · obtain ⟨rfl, rfl⟩ := q
      exact absurd hf' (fun z => hno hm hr' z)
    · exact e8 j v' (by
        rcases hj with hj | ⟨hj, hj2⟩
        · exact .inl hj
        · refine .inr ⟨hj, ?_⟩
          rcases Nat.lt_or_ge v v' with q5 | q5
          · exact q5
          · exact absurd ⟨hj, by omega⟩ q) hv' hm hr' hf'
theorem EI.stop {K fr to i v e : Nat} {r0 : Nat → Nat} {row0 mk row : Nat → Int32} (hv : v < n) (hd : 1 ≤ dg (ds n E t) n (r0 i) v) : ∀ k, k ≤ v → EI n E t K fr to i v e r0 row0 mk row → EI n E t K fr to i k e r0 row0 mk row := by
  intro k hk I
  obtain ⟨m, rfl⟩ : ∃ m, v = k + m := ⟨v - k, by omega⟩
  have key : ∀ j, j ≤ m → EI n E t K fr to i (k + m - j) e r0 row0 mk row := by
    intro j
    induction j with
    | zero => intro _; exact I
    | succ j ih =>
      intro hj
      have := ih (by omega)
      rw [show k + m - j = k + m - (j + 1) + 1 by omega] at this
      refine this.skip fun hm _ _ => ?_
      have h2 := Nat.div_add_mod (r0 i) (2 ^ shf (ds n E t) n (k + m - (j + 1)))
      rw [hm, Nat.add_zero, Nat.mul_comm] at h2
      have h3 := dg_lo (w := ds n E t) (n := n) (x := r0 i / 2 ^ shf (ds n E t) n (k + m - (j + 1))) (l := k + m - (j + 1)) (v := k + m) (by omega) hv
      rw [h2] at h3
      omega
  have := key m (Nat.le_refl _)
  rw [show k + m - m = k by omega] at this
  exact this
theorem EI.next {K fr to i e : Nat} {r0 : Nat → Nat} {row0 mk row : Nat → Int32} (hi : fr ≤ i) (I : EI n E t K fr to i 0 e r0 row0 mk row) : EI n E t K fr to (i + 1) n e r0 row0 mk row := by
  obtain ⟨r, e1, e2, e3, e4, e5, e6, e7, e8, e9, e10, e11⟩ := I
  refine ⟨r, e1, e2, e3, e4, e5, e6, fun x hx hx2 => ?_, fun j v' hj hv' hm hr' hf' => ?_, e9, e10, e11⟩
  · obtain ⟨q1, j, v', q2, q3⟩ := e7 x hx hx2
    refine ⟨q1, j, v', .inl ?_, q3⟩
    rcases q2 with q2 | ⟨q2, q4⟩
    · omega
    · subst q2; omega
  · refine e8 j v' ?_ hv' hm hr' hf'
    rcases hj with hj | ⟨hj, hj2⟩
    · by_cases q : j = i
      · exact .inr ⟨q, Nat.zero_le _⟩
      · exact .inl ⟨hj.1, by omega⟩
    · omega
/-- the inner loop: one code -/
theorem c45i {W : Wd} {a : Nat} {P0 : FP} (ha : W.fp a = some P0) {ln wc fw : Int32} {hm li sh nr : Nat → Int32} (h : Gr n E) (hc : Cn n E) (ht : t < n) (hG : ∀ v, v < n → li v = nI (2 ^ ds n E t v - 1) ∧ sh v = nI (shf (ds n E t) n v) ∧ nr v = nI (nb E v))
    {K fr to i e : Nat} {r0 : Nat → Nat} {row0 mk row : Nat → Int32} (hL : L0 n E t K fr to r0 row0) (hi : fr ≤ i ∧ i < to) (x3 x5 : Int32) (I : EI n E t K fr to i n e r0 row0 mk row) :
    ∃ x, lw (G_45_26 a x3 x5 (nI (r0 i))) 200000 (nI e, dwn n, wp W a (mF (nI t) 1 (nI n) (lN E) ln wc fw hm li sh nr mk) row) = some x ∧ ∃ e2 mk2 row2, x = (nI e2, wp W a (mF (nI t) 1 (nI n) (lN E) ln wc fw hm li sh nr mk2) row2) ∧ EI n E t K fr to i 0 e2 r0 row0 mk2 row2 := by
  have hn := h.2.1
  have h15 := (ds_15 h hc ht).1
  obtain ⟨p1, p2, p3, p4⟩ := hL.2.2.1 i hi.2
  have htot := hL.2.2.2.2.2.1 i hi.1 hi.2
  have hpN := N_le h15 p2
  refine lw_for (n := n) (fun m st => ∃ e mk row, st = (nI e, dwn (n - m), wp W a (mF (nI t) 1 (nI n) (lN E) ln wc fw hm li sh nr mk) row) ∧ EI n E t K fr to i (n - m) e r0 row0 mk row ∧ ∀ u, n - m ≤ u → u < n → dg (ds n E t) n (r0 i) u = 0) ?_ ?_ ⟨e, mk, row, rfl, I, fun u hu hu2 => by omega⟩ (by omega)
  · rintro m st hm2 ⟨e, mk, row, rfl, I, hz⟩
    obtain ⟨v, hv⟩ : ∃ v, n - m = v + 1 := ⟨n - m - 1, by omega⟩
    have hvn : v < n := by omega
    have hv2 : n - (m + 1) = v := by omega
    rw [hv] at I hz
    have hz' : ∀ u, v < u → u < n → dg (ds n E t) n (r0 i) u = 0 := fun u hu hu2 => hz u hu hu2
    have hFG : ∀ mk, FG n E (ds n E t) (mF (nI t) 1 (nI n) (lN E) ln wc fw hm li sh nr mk) := fun mk => ⟨rfl, rfl, hG⟩
    have hsv := w_le h15 hvn
    have hps := pw_lt (show shf (ds n E t) n v ≤ 15 by omega)
    -- the end of the body
    have tail : ∀ e' mk' row', EI n E t K fr to i v e' r0 row0 mk' row' →
        (∃ t', J_45_26_j87 (wp W a (mF (nI t) 1 (nI n) (lN E) ln wc fw hm li sh nr mk') row') a x3 (nI e') x5 (nI (r0 i)) (nI v) = some (.inl t') ∧ ∃ e mk row, t' = (nI e, dwn (n - (m + 1)), wp W a (mF (nI t) 1 (nI n) (lN E) ln wc fw hm li sh nr mk) row) ∧ EI n E t K fr to i (n - (m + 1)) e r0 row0 mk row ∧ ∀ u, n - (m + 1) ≤ u → u < n → dg (ds n E t) n (r0 i) u = 0) ∨
        ∃ x, J_45_26_j87 (wp W a (mF (nI t) 1 (nI n) (lN E) ln wc fw hm li sh nr mk') row') a x3 (nI e') x5 (nI (r0 i)) (nI v) = some (.inr x) ∧ ∃ e2 mk2 row2, x = (nI e2, wp W a (mF (nI t) 1 (nI n) (lN E) ln wc fw hm li sh nr mk2) row2) ∧ EI n E t K fr to i 0 e2 r0 row0 mk2 row2 := by
      intro e' mk' row' I'
      have hd := dg_lt (w := ds n E t) (n := n) (r0 i) v
      have hpw := pw_lt (show ds n E t v ≤ 15 by omega)
      unfold J_45_26_j87
      rw [xfp ha, Option.bind_some, c41 (hFG mk') hn h15 hpN hvn, Option.bind_some]
      by_cases h0 : dg (ds n E t) n (r0 i) v = 0
      · left
        rw [if_pos (show nI (dg (ds n E t) n (r0 i) v) ≤ 0 by rw [h0]; decide), dwn_m1]
        refine ⟨_, rfl, e', mk', row', by rw [hv2], by rw [hv2]; exact I', fun u hu hu2 => ?_⟩
        by_cases q : u = v
        · subst q; exact h0
        · exact hz u (by omega) hu2
      · right
        rw [if_neg (nI_nle (by omega) (by omega))]
        exact ⟨_, rfl, e', mk', row', rfl, I'.stop hvn (by omega) 0 (Nat.zero_le _)⟩
    rw [hv]
    simp only [G_45_26]
    rw [if_neg (dwn_s (by omega)), xfp ha, Option.bind_some, show dwn (v + 1) = nI v from rfl, ixn (by omega) (by decide), Option.bind_some, c42 (hFG mk) hn h15 hpN hvn, Option.bind_some]
    by_cases hr : dg (ds n E t) n (r0 i) v + 1 < 2 ^ ds n E t v
    · rw [if_neg (by rw [bI_0, decide_eq_true hr]; exact fun q => q rfl)]
      have hLN := top_bound p2 hvn hr
      have hLt := tot_add hvn hr
      have eL : nI (r0 i) + (1 <<< (nI (shf (ds n E t) n v) &&& 31)) = nI (r0 i + 2 ^ shf (ds n E t) n v) := by
        rw [show (1 : Int32) <<< (nI (shf (ds n E t) n v) &&& 31) = nI (1 <<< shf (ds n E t) n v) from shl_n 1 (by omega), Nat.one_shiftLeft, nI_add]
      have hsame : fm n E (ds n E t) (mF (nI t) 1 (nI n) (lN E) ln wc fw hm li sh nr mk) (r0 i + 2 ^ shf (ds n E t) n v) = fa n (ad E) (ds n E t) (r0 i + 2 ^ shf (ds n E t) n v) := by
        refine fm_fa h hLN fun d hd hdt => ?_
        obtain ⟨r, -, -, -, -, -, -, -, -, e9, -, -⟩ := I
        exact e9 d hd (by omega)
      by_cases hf : fa n (ad E) (ds n E t) (r0 i + 2 ^ shf (ds n E t) n v) = true
      · obtain ⟨hlt, hadd⟩ := I.add h hc ht hL hi hvn hz' hr hf
        obtain ⟨mk2, f1, f2⟩ := c39 (P := mF (nI t) 1 (nI n) (lN E) ln wc fw hm li sh nr mk) (N_le h15 hLN)
        rw [if_neg (show ¬ Int32.ofNat 2048 ≤ nI e from nI_ge hlt (by decide)), show (mF (nI t) 1 (nI n) (lN E) ln wc fw hm li sh nr mk).shifts = sh from rfl, (hG v hvn).2.1, eL, c46 (hFG mk) h h15 hLN, Option.bind_some, hsame, if_neg (by rw [bI_0]; exact fun q => q hf), f1, Option.bind_some, mFw_marks, xsf, Option.bind_some, ixn hlt (by decide), Option.bind_some, wpr, Option.bind_some, Option.bind_some, nI_1]
        exact tail (e + 1) mk2 _ (hadd mk2 f2)
      · by_cases hlt : e < 2048
        · rw [if_neg (show ¬ Int32.ofNat 2048 ≤ nI e from nI_ge hlt (by decide)), show (mF (nI t) 1 (nI n) (lN E) ln wc fw hm li sh nr mk).shifts = sh from rfl, (hG v hvn).2.1, eL, c46 (hFG mk) h h15 hLN, Option.bind_some, hsame, if_pos (bI_0.mpr hf)]
          exact tail e mk row (I.skip fun _ _ z => hf z)
        · rw [if_pos (show Int32.ofNat 2048 ≤ nI e from nI_le (by omega) (by obtain ⟨r, -, e2, -⟩ := I; omega))]
          exact tail e mk row (I.skip fun _ _ z => hf z)
    · rw [if_pos (by rw [decide_eq_false hr]; rfl)]
      exact tail e mk row (I.skip fun _ z _ => hr z)
  · rintro st ⟨e, mk, row, rfl, I, hz⟩
    rw [Nat.sub_self] at I ⊢
    refine ⟨_, ?_, e, mk, row, rfl, I⟩
    simp only [G_45_26]
    rw [if_pos dwn_0]
/-- a level -/
theorem c45 {W : Wd} {a : Nat} {P0 : FP} (ha : W.fp a = some P0) {ln wc fw : Int32} {hm li sh nr : Nat → Int32} (h : Gr n E) (hc : Cn n E) (ht : t < n) (hG : ∀ v, v < n → li v = nI (2 ^ ds n E t v - 1) ∧ sh v = nI (shf (ds n E t) n v) ∧ nr v = nI (nb E v))
    {K fr to : Nat} {r0 : Nat → Nat} {mk row : Nat → Int32} (hL : L0 n E t K fr to r0 row) (hM : ∀ c, c < 2 ^ sm (ds n E t) n → (MKf mk c = true ↔ fa n (ad E) (ds n E t) c = true ∧ tot (ds n E t) n c ≤ K)) :
    ∃ e mk2 row2, F_45 (wp W a (mF (nI t) 1 (nI n) (lN E) ln wc fw hm li sh nr mk) row) a (nI fr) (nI to) = some (nI e, wp W a (mF (nI t) 1 (nI n) (lN E) ln wc fw hm li sh nr mk2) row2) ∧ EI n E t K fr to to n e r0 row mk2 row2 := by
  have hn := h.2.1
  have h1n := h.1
  obtain ⟨x, e1, e, mk2, row2, rfl, I⟩ : ∃ x, lw (G_45_6 a (nI to)) 200000 (nI to, nI fr, wp W a (mF (nI t) 1 (nI n) (lN E) ln wc fw hm li sh nr mk) row) = some x ∧ ∃ e mk2 row2, x = (nI e, wp W a (mF (nI t) 1 (nI n) (lN E) ln wc fw hm li sh nr mk2) row2) ∧ EI n E t K fr to to n e r0 row mk2 row2 := by
    have hto := hL.2.1
    refine lw_for (n := to - fr) (fun m st => ∃ e mk2 row2, st = (nI e, nI (fr + m), wp W a (mF (nI t) 1 (nI n) (lN E) ln wc fw hm li sh nr mk2) row2) ∧ EI n E t K fr to (fr + m) n e r0 row mk2 row2) ?_ ?_ ?_ (by omega)
    · rintro m st hm2 ⟨e, mk2, row2, rfl, I⟩
      left
      have hfr := hL.1
      obtain ⟨x, e1, e2, mk3, row3, rfl, I2⟩ := c45i ha (ln := ln) (wc := wc) (fw := fw) (hm := hm) h hc ht hG hL (show fr ≤ fr + m ∧ fr + m < to by omega) (nI to) (nI (fr + m)) I
      refine ⟨(nI e2, nI (fr + (m + 1)), wp W a (mF (nI t) 1 (nI n) (lN E) ln wc fw hm li sh nr mk3) row3), ?_, e2, mk3, row3, rfl, EI.next (i := fr + m) (by omega) I2⟩
      have hrow : row2 (fr + m) = nI (r0 (fr + m)) := by
        obtain ⟨r, q1, q2, q3, -⟩ := I
        rw [(q3 (fr + m) (by omega)).2]
        exact (hL.2.2.1 (fr + m) (by omega)).1
      simp only [G_45_6, J_45_6_j107]
      rw [if_neg (nI_ge (by omega) (by omega)), ixn (by omega) (by decide), Option.bind_some, xfp ha, Option.bind_some, wpr, hrow, mF_vertices, dwn_sub h1n, e1, Option.bind_some, nI_1]
      rfl
    · rintro st ⟨e, mk2, row2, rfl, I⟩
      have hfr := hL.1
      rw [show fr + (to - fr) = to by omega] at I ⊢
      refine ⟨_, ?_, e, mk2, row2, rfl, I⟩
      simp only [G_45_6]
      rw [if_pos (nI_le (Nat.le_refl _) (by omega))]
    · refine ⟨to, mk, row, rfl, r0, Nat.le_refl _, hto, fun x hx => ⟨rfl, rfl⟩, fun x hx => ?_, hL.2.2.2.1, fun x y hx hxy hy => by omega, fun x hx hx2 => by omega, fun j v hj => ?_, fun c hcN hct => ?_, fun c hcN hct => ?_, fun c hcN hct => ?_⟩
      · have := hL.2.2.1 x hx
        exact ⟨this.1, this.2.1, this.2.2.1⟩
      · intro hv; rcases hj with hj | hj <;> omega
      · apply bl_tr
        rw [hM c hcN]
        exact ⟨fun q => q.1, fun q => ⟨q, hct⟩⟩
      · rw [hM c hcN]
        exact ⟨fun q => by omega, fun ⟨x, q1, q2, q3⟩ => by omega⟩
      · cases hb : MKf mk c with
        | false => rfl
        | true => have := (hM c hcN).mp hb; omega
  refine ⟨e, mk2, row2, ?_, I⟩
  unfold F_45
  rw [e1]
  rfl
/-- the next level is whole -/
theorem EI.lvl {K fr to e : Nat} {r0 : Nat → Nat} {row0 mk row : Nat → Int32} (h : Gr n E) (hc : Cn n E) (ht : t < n) (hL : L0 n E t K fr to r0 row0) (I : EI n E t K fr to to n e r0 row0 mk row) : ∃ r, L0 n E t (K + 1) to e r row ∧ ∀ c, c < 2 ^ sm (ds n E t) n → (MKf mk c = true ↔ fa n (ad E) (ds n E t) c = true ∧ tot (ds n E t) n c ≤ K + 1) := by
  obtain ⟨r, e1, e2, e3, e4, e5, e6, e7, e8, e9, e10, e11⟩ := I
  have comp : ∀ c, c < 2 ^ sm (ds n E t) n → fa n (ad E) (ds n E t) c = true → tot (ds n E t) n c = K + 1 → ∃ x, to ≤ x ∧ x < e ∧ r x = c := by
    intro c hcN hf hct
    obtain ⟨v, hv, hd, hz⟩ := last_nz (w := ds n E t) (n := n) (c := c) (by omega)
    obtain ⟨q1, q2, q3⟩ := dg_sub hv hd
    have q4 : c - 2 ^ shf (ds n E t) n v + 2 ^ shf (ds n E t) n v = c := Nat.sub_add_cancel q1
    have q5 := tot_add hv q2
    rw [q4] at q5
    have qs : c - 2 ^ shf (ds n E t) n v < 2 ^ sm (ds n E t) n := Nat.lt_of_le_of_lt (Nat.sub_le _ _) hcN
    have q6 := fa_mono h.ir _ (c - 2 ^ shf (ds n E t) n v) v (Nat.le_refl _) qs hv q2 (by rw [q4]; exact hf)
    obtain ⟨j, q7, q8, q9⟩ := hL.2.2.2.2.2.2 (c - 2 ^ shf (ds n E t) n v) qs q6 (by omega)
    have q10 := mod_zero (w := ds n E t) (c := c - 2 ^ shf (ds n E t) n v) hv qs (fun u hu hun => by
      rw [q3 u hun, if_neg (by omega)]; exact hz u hu hun)
    obtain ⟨x, q11, q12, q13⟩ := e8 j v (.inl ⟨q7, q8⟩) hv (by rw [q9]; exact q10) (by rw [q9]; exact q2) (by rw [q9, q4]; exact hf)
    exact ⟨x, q11, q12, by rw [q13, q9, q4]⟩
  refine ⟨r, ⟨e1, e2, fun x hx => ?_, e5, e6, fun x hx hx2 => (e7 x hx hx2).1, comp⟩, fun c hcN => ?_⟩
  · obtain ⟨q1, q2, q3⟩ := e4 x hx
    refine ⟨q1, q2, q3, ?_⟩
    rcases Nat.lt_or_ge x to with q | q
    · rw [(e3 x q).1]
      have := (hL.2.2.1 x q).2.2.2
      omega
    · exact Nat.le_of_eq (e7 x q hx).1
  · rcases Nat.lt_trichotomy (tot (ds n E t) n c) (K + 1) with q | q | q
    · rw [e9 c hcN (by omega)]
      exact ⟨fun z => ⟨z, by omega⟩, fun z => z.1⟩
    · rw [e10 c hcN q]
      constructor
      · rintro ⟨x, z1, z2, z3⟩
        exact ⟨by rw [← z3]; exact (e4 x z2).2.2, by omega⟩
      · rintro ⟨z1, z2⟩
        exact comp c hcN z1 q
    · rw [e11 c hcN q]
      exact ⟨fun z => (by cases z), fun z => by omega⟩
end FE
