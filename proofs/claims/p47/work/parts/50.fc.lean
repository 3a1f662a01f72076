/-! ===== FAILING PILES: the class' marks, one pile looked at ===== -/
theorem bt_and1 (x : Int32) {k : Nat} (hk : k < 32) : ((x >>> (nI k &&& 31)) &&& 1 = 0) ↔ ¬ bt x k = true := by
  have h1 : ∀ i, i < 32 → bt ((x >>> (nI k &&& 31)) &&& 1) i = (decide (i = 0) && bt x k) := by
    intro i hi
    rw [b_and, b_sshr k hk x hi]
    have h2 : bt 1 i = decide (i = 0) := (by decide +kernel : ∀ i, i < 32 → bt 1 i = decide (i = 0)) i hi
    rw [h2]
    by_cases h0 : i = 0
    · subst h0
      rw [Nat.add_zero, if_pos hk]
      simp
    · simp [h0]
  constructor
  · intro h h2
    have := h1 0 (by decide)
    rw [h, b_0, h2] at this
    cases this
  · intro h
    apply b_ext
    intro i hi
    rw [h1 i hi, b_0]
    cases hb : bt x k with
    | false => simp
    | true => exact absurd hb h
def MK (P : FP) (c : Nat) : Bool := bt (P.marks (c / 32)) (c % 32)
theorem mk_ix {c : Nat} (hc : c < 32768) : ix ((nI c >>> (5 &&& 31)) &&& 1023) 1024 = some (c / 32) := by
  rw [show (nI c >>> ((5 : Int32) &&& 31)) = nI (c >>> 5) from shr_n (k := 5) (by omega) (by decide), show (1023 : Int32) = nI (2 ^ 10 - 1) from rfl, fa_mask, Nat.shiftRight_eq_div_pow, ixn (by omega) (by decide)]
  congr 1
  omega
theorem mk_31 (c : Nat) : nI c &&& 31 = nI (c % 32) := by
  rw [show (31 : Int32) = nI (2 ^ 5 - 1) from rfl, fa_mask]
theorem c40 {P : FP} {c : Nat} (hc : c < 32768) : F_40 P (nI c) = some (bI (MK P c)) := by
  simp only [F_40, J_40_0_j27]
  rw [mk_ix hc, Option.bind_some, mk_31]
  unfold MK
  by_cases h : bt (P.marks (c / 32)) (c % 32) = true
  · rw [if_neg (by rw [bt_and1 _ (by omega)]; exact fun q => q h), h]; rfl
  · rw [if_pos ((bt_and1 _ (by omega)).mpr h), (by simpa using h : bt (P.marks (c / 32)) (c % 32) = false)]; rfl
theorem c39 {P : FP} {c : Nat} (hc : c < 32768) : ∃ m, F_39 P (nI c) = some (P.w_marks m) ∧ ∀ d, d < 32768 → MK (P.w_marks m) d = (MK P d || decide (d = c)) := by
  refine ⟨upd P.marks (c / 32) (P.marks (c / 32) ||| (1 <<< ((nI c &&& 31) &&& 31))), ?_, fun d hd => ?_⟩
  · unfold F_39
    rw [mk_ix hc, Option.bind_some, Option.bind_some]
  · unfold MK
    show bt (upd P.marks (c / 32) _ (d / 32)) (d % 32) = _
    by_cases h : d / 32 = c / 32
    · rw [h, pk_us, b_or, mk_31, b_shl (c % 32) (by omega) 1 (show d % 32 < 32 by omega)]
      congr 1
      have h2 : ∀ i, i < 32 → bt 1 i = decide (i = 0) := by decide +kernel
      rw [h2 _ (by omega)]
      by_cases h3 : d = c
      · subst h3; simp
      · rw [decide_eq_false h3]
        by_cases h4 : c % 32 ≤ d % 32
        · rw [decide_eq_false (show ¬ d % 32 - c % 32 = 0 by omega), Bool.and_false]
        · rw [decide_eq_false h4, Bool.false_and]
    · rw [pk_un h, decide_eq_false (fun q => h (by rw [q])), Bool.or_false]
def FG (n E : Nat) (w : Nat → Nat) (P : FP) : Prop := P.vertices = nI n ∧ P.edges = lN E ∧ ∀ v, v < n → P.limits v = nI (2 ^ w v - 1) ∧ P.shifts v = nI (shf w n v) ∧ P.near v = nI (nb E v)
section FC
variable {n E : Nat} {w : Nat → Nat} {P : FP}
theorem w_le (h15 : sm w n ≤ 15) {v : Nat} (hv : v < n) : shf w n v + w v ≤ 15 := Nat.le_trans (shf_top hv) h15
theorem pw_lt {k m : Nat} (h : k ≤ m) : 2 ^ k ≤ 2 ^ m := Nat.pow_le_pow_right (by decide) h
theorem c41 (hG : FG n E w P) (hn : n ≤ 6) (h15 : sm w n ≤ 15) {c v : Nat} (hc : c < 32768) (hv : v < n) : F_41 P (nI c) (nI v) = some (nI (dg w n c v)) := by
  have h1 := w_le h15 hv
  unfold F_41
  rw [ixn (by omega) (by decide), Option.bind_some, (hG.2.2 v hv).1, (hG.2.2 v hv).2.1, shr_n (by omega) (by omega), fa_mask, Nat.shiftRight_eq_div_pow]
  rfl
theorem c42 (hG : FG n E w P) (hn : n ≤ 6) (h15 : sm w n ≤ 15) {c v : Nat} (hc : c < 32768) (hv : v < n) : F_42 P (nI c) (nI v) = some (bI (decide (dg w n c v + 1 < 2 ^ w v))) := by
  have h1 := w_le h15 hv
  have hd := dg_lt (w := w) (n := n) c v
  simp only [F_42, J_42_0_j25]
  rw [ixn (by omega) (by decide), Option.bind_some, (hG.2.2 v hv).1, (hG.2.2 v hv).2.1]
  have key : ((nI c ^^^ (-1)) >>> (nI (shf w n v) &&& 31)) &&& nI (2 ^ w v - 1) = 0 ↔ ¬ dg w n c v + 1 < 2 ^ w v := by
    have hb : ∀ i, i < 32 → bt (((nI c ^^^ (-1)) >>> (nI (shf w n v) &&& 31)) &&& nI (2 ^ w v - 1)) i = (decide (i < w v) && !(dg w n c v).testBit i) := by
      intro i hi
      rw [b_and, bt_nI hi, Nat.testBit_two_pow_sub_one, b_sshr _ (by omega) _ hi, Bool.and_comm]
      by_cases h2 : i < w v
      · rw [decide_eq_true h2, if_pos (by omega), Bool.true_and, Bool.true_and, b_xor, b_m1 _ (by omega), bt_nI (by omega)]
        unfold dg
        rw [Nat.testBit_mod_two_pow, decide_eq_true h2, Bool.true_and, div_bit]
        cases c.testBit (shf w n v + i) <;> rfl
      · rw [decide_eq_false h2, Bool.false_and, Bool.false_and]
    have hall : ((nI c ^^^ (-1)) >>> (nI (shf w n v) &&& 31)) &&& nI (2 ^ w v - 1) = 0 ↔ ∀ i, i < w v → (dg w n c v).testBit i = true := by
      constructor
      · intro h i hi
        have := hb i (by omega)
        rw [h, b_0, decide_eq_true hi, Bool.true_and] at this
        simpa using this.symm
      · intro h
        apply b_ext
        intro i hi
        rw [hb i hi, b_0]
        by_cases h2 : i < w v
        · rw [h i h2]; simp
        · rw [decide_eq_false h2, Bool.false_and]
    rw [hall]
    constructor
    · intro h h2
      have : dg w n c v = 2 ^ w v - 1 := bit_ext fun j => by
        rw [Nat.testBit_two_pow_sub_one]
        by_cases h3 : j < w v
        · rw [h j h3, decide_eq_true h3]
        · rw [bit_ge hd (by omega), decide_eq_false h3]
      omega
    · intro h i hi
      have : dg w n c v = 2 ^ w v - 1 := by omega
      rw [this, Nat.testBit_two_pow_sub_one, decide_eq_true hi]
  by_cases h : dg w n c v + 1 < 2 ^ w v
  · rw [if_neg (by rw [key]; exact fun q => q h), decide_eq_true h]; rfl
  · rw [if_pos (key.mpr h), decide_eq_false h]; rfl
/-- a loop that looks whether all hold -/
theorem lw_all {f : Int32 → Option (Int32 ⊕ Unit ⊕ Int32)} {P : Nat → Bool} {n : Nat} (hs : ∀ i, i < n → f (nI i) = if P i then some (.inl (nI (i + 1))) else some (.inr (.inr 0))) (he : f (nI n) = some (.inr (.inl ()))) (hn : n < 200000) :
    ∃ r, lw f 200000 (nI 0) = some r ∧ ((al P n = true ∧ r = .inl ()) ∨ (al P n = false ∧ r = .inr 0)) := by
  refine lw_for (n := n) (fun i st => st = nI i ∧ ∀ j, j < i → P j = true) ?_ ?_ ⟨rfl, fun j hj => absurd hj (Nat.not_lt_zero _)⟩ hn
  · rintro i st hi ⟨rfl, h1⟩
    have h2 := hs i hi
    by_cases hP : P i = true
    · left
      rw [if_pos hP] at h2
      refine ⟨_, h2, rfl, fun j hj => ?_⟩
      rcases Nat.lt_or_ge j i with h3 | h3
      · exact h1 j h3
      · obtain rfl : j = i := by omega
        exact hP
    · right
      rw [if_neg hP] at h2
      refine ⟨_, h2, .inr ⟨?_, rfl⟩⟩
      cases hb : al P n with
      | false => rfl
      | true => rw [al_iff] at hb; exact absurd (hb i hi) hP
  · rintro st ⟨rfl, h1⟩
    exact ⟨_, he, .inl ⟨al_iff.mpr h1, rfl⟩⟩
/-- as far as the marks tell -/
def fmo (n E : Nat) (w : Nat → Nat) (P : FP) (c v : Nat) : Bool := al (fun o => !ad E v o || (decide (dg w n c o + 1 < 2 ^ w o) && MK P (mvc w n c v o))) n
def fm (n E : Nat) (w : Nat → Nat) (P : FP) (c : Nat) : Bool := al (fun v => decide (dg w n c v < 2) || fmo n E w P c v) n
theorem N_le (h15 : sm w n ≤ 15) {c : Nat} (hc : c < 2 ^ sm w n) : c < 32768 := Nat.lt_of_lt_of_le hc (pw_lt h15)
theorem c47 (hG : FG n E w P) (h : Gr n E) (h15 : sm w n ≤ 15) {c v : Nat} (hc : c < 2 ^ sm w n) (hv : v < n) (h2 : 2 ≤ dg w n c v) : F_47 P (nI v) (nI c) = some (bI (fmo n E w P c v)) := by
  have hn := h.2.1
  have hcN := N_le h15 hc
  have hsv := w_le h15 hv
  have hs1 := pw_lt (show shf w n v ≤ 15 by omega)
  obtain ⟨p1, p2, p3⟩ := dg_sub hv (show 1 ≤ dg w n c v by omega)
  have p4 := p3 v hv
  rw [if_pos rfl] at p4
  obtain ⟨q1, q2, q3⟩ := dg_sub (w := w) (n := n) (c := c - 2 ^ shf w n v) hv (by omega)
  have e1 : nI c - (2 <<< (nI (shf w n v) &&& 31)) = nI (c - 2 * 2 ^ shf w n v) := by
    rw [show (2 : Int32) <<< (nI (shf w n v) &&& 31) = nI (2 <<< shf w n v) from shl_n 2 (by omega), Nat.shiftLeft_eq, pk_sub (by omega)]
  have step : ∀ i, i < n → G_47_14 P (nI v) (nI c) (nI (c - 2 * 2 ^ shf w n v)) (nI i) = if (!ad E v i || (decide (dg w n c i + 1 < 2 ^ w i) && MK P (mvc w n c v i))) then some (.inl (nI (i + 1))) else some (.inr (.inr 0)) := by
    intro i hi
    have hsi := w_le h15 hi
    have hs2 := pw_lt (show shf w n i ≤ 15 by omega)
    simp only [G_47_14, J_47_14_j67, J_47_14_j65]
    rw [hG.1, if_neg (nI_ge hi (by omega)), ixn (by omega) (by decide), Option.bind_some, (hG.2.2 v hv).2.2]
    have hnb := nb_lt E v
    by_cases ha : ad E v i = true
    · rw [if_neg (by rw [tb0 (by omega) (by omega), nb_ad h]; exact fun q => q ⟨hi, ha⟩), c42 hG hn h15 hcN hi, Option.bind_some, ha]
      by_cases hr : dg w n c i + 1 < 2 ^ w i
      · have hm := mv_ok hc hv hi (h.ne hi ha) h2 hr
        rw [if_neg (by rw [bI_0, decide_eq_true hr]; exact fun q => q rfl), ixn (by omega) (by decide), Option.bind_some, (hG.2.2 i hi).2.1, show (1 : Int32) <<< (nI (shf w n i) &&& 31) = nI (1 <<< shf w n i) from shl_n 1 (by omega), Nat.one_shiftLeft, nI_add, show c - 2 * 2 ^ shf w n v + 2 ^ shf w n i = mvc w n c v i from rfl, c40 (N_le h15 hm.1), Option.bind_some, decide_eq_true hr]
        cases hk : MK P (mvc w n c v i)
        · rw [if_neg (by decide)]; rfl
        · rw [if_pos (by decide), nI_1]; rfl
      · rw [if_pos (by rw [decide_eq_false hr]; rfl), decide_eq_false hr]; rfl
    · rw [if_pos (by rw [tb0 (by omega) (by omega), nb_ad h]; exact fun q => ha q.2), (by simpa using ha : ad E v i = false), nI_1]; rfl
  obtain ⟨r, e2, hr⟩ := lw_all (f := G_47_14 P (nI v) (nI c) (nI (c - 2 * 2 ^ shf w n v))) step (by
    simp only [G_47_14]
    rw [hG.1, if_pos (nI_le (Nat.le_refl _) (by omega))]) (by omega)
  unfold F_47
  rw [ixn (by omega) (by decide), Option.bind_some, (hG.2.2 v hv).2.1, e1, z0, e2, Option.bind_some]
  unfold fmo
  rcases hr with ⟨h3, rfl⟩ | ⟨h3, rfl⟩ <;> rw [h3] <;> rfl
theorem c46 (hG : FG n E w P) (h : Gr n E) (h15 : sm w n ≤ 15) {c : Nat} (hc : c < 2 ^ sm w n) : F_46 P (nI c) = some (bI (fm n E w P c)) := by
  have hn := h.2.1
  have hcN := N_le h15 hc
  have step : ∀ i, i < n → G_46_2 P (nI c) (nI i) = if (decide (dg w n c i < 2) || fmo n E w P c i) then some (.inl (nI (i + 1))) else some (.inr (.inr 0)) := by
    intro i hi
    have hd := dg_lt (w := w) (n := n) c i
    have hsi := w_le h15 hi
    have hs2 := pw_lt (show w i ≤ 15 by omega)
    simp only [G_46_2, J_46_2_j31]
    rw [hG.1, if_neg (nI_ge hi (by omega)), c41 hG hn h15 hcN hi, Option.bind_some]
    by_cases h2 : dg w n c i < 2
    · rw [if_pos (show nI (dg w n c i) < 2 from nI_lt (b := 2) h2 (by decide)), decide_eq_true h2, nI_1]; rfl
    · rw [if_neg (show ¬ nI (dg w n c i) < 2 from nI_nlt (b := 2) (by omega) (by omega)), c47 hG h h15 hc hi (by omega), Option.bind_some, decide_eq_false h2]
      cases hk : fmo n E w P c i
      · rw [if_neg (by decide)]; rfl
      · rw [if_pos (by decide), nI_1]; rfl
  obtain ⟨r, e2, hr⟩ := lw_all (f := G_46_2 P (nI c)) step (by
    simp only [G_46_2]
    rw [hG.1, if_pos (nI_le (Nat.le_refl _) (by omega))]) (by omega)
  unfold F_46
  rw [z0, e2, Option.bind_some]
  unfold fm
  rcases hr with ⟨h3, rfl⟩ | ⟨h3, rfl⟩ <;> rw [h3] <;> rfl
theorem Gr.ir (h : Gr n E) : ir n (ad E) := fun v o _ ho ha => h.ne ho ha
/-- marks that know all smaller piles tell of the pile -/
theorem fm_fa (h : Gr n E) {c : Nat} (hc : c < 2 ^ sm w n) (hM : ∀ d, d < 2 ^ sm w n → tot w n d + 1 = tot w n c → MK P d = fa n (ad E) w d) : fm n E w P c = fa n (ad E) w c := by
  apply bl_tr
  rw [fa_iff h.ir hc]
  unfold fm fmo
  rw [al_iff]
  constructor
  · intro h1 v o hv ho h2 ha
    have h3 := h1 v hv
    rw [decide_eq_false (show ¬ dg w n c v < 2 by omega), Bool.false_or, al_iff] at h3
    have h4 := h3 o ho
    rw [ha, Bool.not_true, Bool.false_or, Bool.and_eq_true, decide_eq_true_eq] at h4
    obtain ⟨q1, q2, q3, q4⟩ := mv_ok hc hv ho (h.ne ho ha) h2 h4.1
    rw [← hM _ q1 q4]
    exact h4
  · intro h1 v hv
    rw [Bool.or_eq_true, decide_eq_true_eq]
    rcases Nat.lt_or_ge (dg w n c v) 2 with h2 | h2
    · exact .inl h2
    · right
      rw [al_iff]
      intro o ho
      cases ha : ad E v o with
      | false => rfl
      | true =>
        obtain ⟨h3, h4⟩ := h1 v o hv ho h2 ha
        obtain ⟨q1, q2, q3, q4⟩ := mv_ok hc hv ho (h.ne ho ha) h2 h3
        rw [hM _ q1 q4, h4, decide_eq_true h3]
        rfl
end FC
