/-! ===== THE MODEL'S TABLE: what leads on, what reaches ===== -/
/-- a loop that looks for one -/
theorem lw_any {f : Int32 → Option (Int32 ⊕ Unit ⊕ Int32)} {P : Nat → Bool} {n : Nat} (hs : ∀ i, i < n → f (nI i) = if P i then some (.inr (.inr 1)) else some (.inl (nI (i + 1)))) (he : f (nI n) = some (.inr (.inl ()))) (hn : n < 200000) :
    ∃ r, lw f 200000 (nI 0) = some r ∧ ((al (fun i => !P i) n = true ∧ r = .inl ()) ∨ (al (fun i => !P i) n = false ∧ r = .inr 1)) := by
  refine lw_for (n := n) (fun i st => st = nI i ∧ ∀ j, j < i → P j = false) ?_ ?_ ⟨rfl, fun j hj => absurd hj (Nat.not_lt_zero _)⟩ hn
  · rintro i st hi ⟨rfl, h1⟩
    have h2 := hs i hi
    by_cases hP : P i = true
    · right
      rw [if_pos hP] at h2
      refine ⟨_, h2, .inr ⟨?_, rfl⟩⟩
      cases hb : al (fun i => !P i) n with
      | false => rfl
      | true => rw [al_iff] at hb; have := hb i hi; rw [hP] at this; cases this
    · left
      rw [if_neg hP] at h2
      refine ⟨_, h2, rfl, fun j hj => ?_⟩
      rcases Nat.lt_or_ge j i with h3 | h3
      · exact h1 j h3
      · obtain rfl : j = i := by omega
        simpa using hP
  · rintro st ⟨rfl, h1⟩
    exact ⟨_, he, .inl ⟨al_iff.mpr fun i hi => by rw [h1 i hi]; rfl, rfl⟩⟩
theorem md_reach (x : Md) (f : Nat → Int32) : ∃ y, x.w_isReached f = y ∧ y.isReached = f ∧ y.totals = x.totals ∧ y.byTotal = x.byTotal ∧ y.room = x.room ∧ y.unit = x.unit ∧ y.piles = x.piles ∧ MF x y := ⟨_, rfl, rfl, rfl, rfl, rfl, rfl, rfl, rfl, rfl, rfl, rfl, rfl, rfl, rfl, rfl, rfl⟩
/-- the table laid -/
def TB (n E t : Nat) (M : Md) : Prop := UN n E t M ∧ (∀ c, c < 2 ^ sm (ds n E t) n → M.totals c = nI (tot (ds n E t) n c)) ∧ ∀ c, c < 2 ^ sm (ds n E t) n → M.isReached c = bI (!fa n (ad E) (ds n E t) c)
section ML
variable {n E t : Nat}
theorem m208 {M : Md} (hM : MR n E M.now) (hU : UN n E t M) (h : Gr n E) (hc : Cn n E) (ht : t < n) {c : Nat} (hcN : c < 2 ^ sm (ds n E t) n) (hR : ∀ d, d < 2 ^ sm (ds n E t) n → tot (ds n E t) n d + 1 = tot (ds n E t) n c → M.isReached d = bI (!fa n (ad E) (ds n E t) d)) : F_208 M (nI c) = some (bI (!fa n (ad E) (ds n E t) c)) := by
  have hn := h.2.1
  have h15 := (ds_15 h hc ht).1
  have hc2 := N_le h15 hcN
  have inner : ∀ v, v < n → 2 ≤ dg (ds n E t) n c v → ∃ r, lw (G_208_27 M (nI c) (nI v)) 200000 (nI 0) = some r ∧ ((al (fun o => !(ad E v o && (!decide (dg (ds n E t) n c o + 1 < 2 ^ ds n E t o) || !fa n (ad E) (ds n E t) (mvc (ds n E t) n c v o)))) n = true ∧ r = .inl ()) ∨ (al (fun o => !(ad E v o && (!decide (dg (ds n E t) n c o + 1 < 2 ^ ds n E t o) || !fa n (ad E) (ds n E t) (mvc (ds n E t) n c v o)))) n = false ∧ r = .inr 1)) := by
    intro v hv h2
    have hw := w_le h15 hv
    refine lw_any (P := fun o => ad E v o && (!decide (dg (ds n E t) n c o + 1 < 2 ^ ds n E t o) || !fa n (ad E) (ds n E t) (mvc (ds n E t) n c v o))) (fun i hi => ?_) ?_ (by omega)
    · have hwi := w_le h15 hi
      have hdi := dg_lt (w := ds n E t) (n := n) c i
      have p2 := pw_lt (show ds n E t i ≤ 15 by omega)
      simp only [G_208_27, J_208_27_j91, J_208_27_j93]
      rw [ix0, Option.bind_some, hM.1, if_neg (nI_ge hi (by omega)), m175 hM (by omega) (by omega), Option.bind_some]
      by_cases ha : ad E v i = true
      · rw [if_pos (by rw [bI_0]; exact fun q => q ha), m205 hU hn h15 hc2 hi, Option.bind_some, ixn (by omega) (by decide), Option.bind_some, (hU.2 i hi).1, nI_1, ha, Bool.true_and]
        by_cases hr : dg (ds n E t) n c i + 1 < 2 ^ ds n E t i
        · have hm := mv_ok hcN hv hi (h.ne hi ha) h2 hr
          rw [if_neg (by rw [nI_eq (by omega) (by omega)]; omega), ixn (by omega) (by decide), Option.bind_some, (hU.2 v hv).2, (hU.2 i hi).2, z2, pk_mul, pk_sub hm.2.1, nI_add, show c - 2 * 2 ^ shf (ds n E t) n v + 2 ^ shf (ds n E t) n i = mvc (ds n E t) n c v i from rfl, ixn (N_le h15 hm.1) (by decide), Option.bind_some, hR _ hm.1 hm.2.2.2, decide_eq_true hr]
          cases hf : fa n (ad E) (ds n E t) (mvc (ds n E t) n c v i)
          · rw [if_neg (by decide)]; rfl
          · rw [if_pos (by decide), nI_1]; rfl
        · rw [if_pos (by rw [nI_eq (by omega) (by omega)]; omega), decide_eq_false hr]; rfl
      · rw [if_neg (by rw [bI_0]; exact fun q => q ha), (by simpa using ha : ad E v i = false), nI_1]; rfl
    · simp only [G_208_27]
      rw [ix0, Option.bind_some, hM.1, if_pos (nI_le (Nat.le_refl _) (by omega))]
  obtain ⟨r, e1, hr⟩ := lw_any (f := G_208_2 M (nI c)) (P := fun v => decide (2 ≤ dg (ds n E t) n c v) && !al (fun o => !(ad E v o && (!decide (dg (ds n E t) n c o + 1 < 2 ^ ds n E t o) || !fa n (ad E) (ds n E t) (mvc (ds n E t) n c v o)))) n) (n := n) (fun i hi => by
    have hdi := dg_lt (w := ds n E t) (n := n) c i
    have hwi := w_le h15 hi
    have p2 := pw_lt (show ds n E t i ≤ 15 by omega)
    simp only [G_208_2, J_208_2_j99]
    rw [ix0, Option.bind_some, hM.1, if_neg (nI_ge hi (by omega)), m205 hU hn h15 hc2 hi, Option.bind_some]
    by_cases h2 : 2 ≤ dg (ds n E t) n c i
    · rw [if_pos (show (2 : Int32) ≤ nI (dg (ds n E t) n c i) from nI_le (a := 2) h2 (by omega)), decide_eq_true h2, Bool.true_and]
      obtain ⟨r, e1, ⟨q1, rfl⟩ | ⟨q1, rfl⟩⟩ := inner i hi h2
      · rw [q1, z0, e1, Option.bind_some, nI_1]; rfl
      · rw [q1, z0, e1, Option.bind_some]; rfl
    · rw [if_neg (show ¬ (2 : Int32) ≤ nI (dg (ds n E t) n c i) from nI_ge (b := 2) (by omega) (by decide)), decide_eq_false h2, nI_1]; rfl) (by
    simp only [G_208_2]
    rw [ix0, Option.bind_some, hM.1, if_pos (nI_le (Nat.le_refl _) (by omega))]) (by omega)
  have key : al (fun v => !(decide (2 ≤ dg (ds n E t) n c v) && !al (fun o => !(ad E v o && (!decide (dg (ds n E t) n c o + 1 < 2 ^ ds n E t o) || !fa n (ad E) (ds n E t) (mvc (ds n E t) n c v o)))) n)) n = fa n (ad E) (ds n E t) c := by
    apply bl_tr
    rw [al_iff, fa_iff h.ir hcN]
    constructor
    · intro q v o hv ho h2 ha
      have q1 := q v hv
      rw [decide_eq_true h2, Bool.true_and, Bool.not_not, al_iff] at q1
      have q2 := q1 o ho
      rw [ha, Bool.true_and] at q2
      simp only [Bool.not_or, Bool.not_not, Bool.and_eq_true, decide_eq_true_eq] at q2
      exact q2
    · intro q v hv
      by_cases h2 : 2 ≤ dg (ds n E t) n c v
      · rw [decide_eq_true h2, Bool.true_and, Bool.not_not, al_iff]
        intro o ho
        cases ha : ad E v o with
        | false => rfl
        | true =>
          obtain ⟨q1, q2⟩ := q v o hv ho h2 ha
          rw [decide_eq_true q1, q2]; rfl
      · rw [decide_eq_false h2]; rfl
  unfold F_208
  rw [z0, e1, Option.bind_some, ← key]
  rcases hr with ⟨q, rfl⟩ | ⟨q, rfl⟩
  · rw [q]; rfl
  · rw [q]; rfl
theorem m209 {M : Md} (hM : MR n E M.now) (h : Gr n E) (hc : Cn n E) (ht : t < n) : ∃ M', F_209 M (nI t) = some M' ∧ MF M M' ∧ TB n E t M' := by
  have hn := h.2.1
  have h15 := (ds_15 h hc ht).1
  have hN' : 2 ^ sm (ds n E t) n ≤ 32768 := pw_lt h15
  obtain ⟨M1, e1, f1, u1⟩ := m206 hM h hc ht
  obtain ⟨M2, e2, f2, u2, t2, b2⟩ := m207 (by rw [f1.now]; exact hM) u1 h hc ht
  obtain ⟨x, e3, f3, u3, t3, b3, r3⟩ : ∃ x, lw (G_209_11) 200000 (nI 0, M2) = some x ∧ MF M x ∧ UN n E t x ∧ (∀ c, c < 2 ^ sm (ds n E t) n → x.totals c = nI (tot (ds n E t) n c)) ∧ (∀ c, c < 2 ^ sm (ds n E t) n → x.byTotal (rk (tot (ds n E t) n) (2 ^ sm (ds n E t) n) c) = nI c) ∧ ∀ c, c < 2 ^ sm (ds n E t) n → x.isReached c = bI (!fa n (ad E) (ds n E t) c) := by
    refine lw_for (n := 2 ^ sm (ds n E t) n) (fun i st => ∃ x, st = (nI i, x) ∧ MF M x ∧ UN n E t x ∧ (∀ c, c < 2 ^ sm (ds n E t) n → x.totals c = nI (tot (ds n E t) n c)) ∧ (∀ c, c < 2 ^ sm (ds n E t) n → x.byTotal (rk (tot (ds n E t) n) (2 ^ sm (ds n E t) n) c) = nI c) ∧ ∀ c, c < 2 ^ sm (ds n E t) n → rk (tot (ds n E t) n) (2 ^ sm (ds n E t) n) c < i → x.isReached c = bI (!fa n (ad E) (ds n E t) c)) ?_ ?_ ⟨M2, rfl, f1.tr f2, u2, t2, b2, fun c _ hcr => absurd hcr (Nat.not_lt_zero _)⟩ (by omega)
    · rintro i st hi ⟨x, rfl, k1, k2, k3, k4, k5⟩
      left
      obtain ⟨c, hcN, hcr⟩ := rk_onto (T := tot (ds n E t) n) hi
      have hb := k4 c hcN
      rw [hcr] at hb
      have e4 := m208 (by rw [k1.now]; exact hM) k2 h hc ht hcN (fun d hd hdt => k5 d hd (by rw [← hcr]; exact rk_lt hd (.inl (by omega))))
      obtain ⟨X, hX, x1, x2, x3, x4, x5, x6, x7⟩ := md_reach x (upd x.isReached c (bI (!fa n (ad E) (ds n E t) c)))
      refine ⟨(nI (i + 1), X), ?_, X, rfl, k1.tr x7, k2.of x4 x5 x6, by rw [x2]; exact k3, by rw [x3]; exact k4, fun d hd hdr => ?_⟩
      · simp only [G_209_11]
        rw [k2.1, if_neg (nI_ge hi (by omega)), ixn (by omega) (by decide), Option.bind_some, hb, e4, Option.bind_some, ixn (by omega) (by decide), Option.bind_some, bI_ok, hX, Option.bind_some, nI_1]
      · rw [x1]
        by_cases q : d = c
        · subst q; exact pk_us
        · rw [pk_un q]
          refine k5 d hd ?_
          rcases Nat.lt_or_ge (rk (tot (ds n E t) n) (2 ^ sm (ds n E t) n) d) i with z | z
          · exact z
          · exact absurd (rk_inj (T := tot (ds n E t) n) hd hcN (by omega)) q
    · rintro st ⟨x, rfl, k1, k2, k3, k4, k5⟩
      refine ⟨x, ?_, k1, k2, k3, k4, fun c hcN => k5 c hcN (rk_N hcN)⟩
      simp only [G_209_11]
      rw [k2.1, if_pos (nI_le (Nat.le_refl _) (by omega))]
  refine ⟨x, ?_, f3, u3, t3, r3⟩
  unfold F_209
  rw [e1, Option.bind_some, e2, Option.bind_some, z0, e3]
  rfl
theorem hx_sum {p : Nat → Nat} {w : Nat → Nat} : ∀ i, i ≤ n → sm (fun v => 2 ^ shf w n v * p v) i = hx w p i * 2 ^ (sm w n - sm w i)
  | 0, _ => by rw [sm, hx, Nat.zero_mul]
  | i + 1, hi => by
    have e0 : sm w (i + 1) = sm w i + w i := rfl
    have h3 := sm_le_of_lt (f := w) (show i + 1 ≤ n by omega)
    rw [sm, hx_sum i (by omega), hx, Nat.add_mul, show sm w n - sm w i = w i + (sm w n - sm w (i + 1)) by omega, pw_add, ← Nat.mul_assoc]
    congr 1
    exact Nat.mul_comm _ _
theorem m210 {M : Md} {p : Nat → Nat} (hM : MR n E M.now) (hP : MP p M.now) (hT : TB n E t M) (hp2 : ∀ v, v < 6 → p v < 2 ^ 31) (h : Gr n E) (hc : Cn n E) (ht : t < n) (x1 : Int32) : F_210 M x1 = some (bI (!hold n E t p)) := by
  have hn := h.2.1
  have h15 := (ds_15 h hc ht).1
  obtain ⟨x, e1, hx1⟩ : ∃ x, lw (G_210_4 M) 200000 (0, 0) = some x ∧ ((x = .inr 1 ∧ inb n (ds n E t) p = false) ∨ (x = .inl (nI (hx (ds n E t) p n)) ∧ inb n (ds n E t) p = true)) := by
    refine lw_for (n := n) (fun i st => st = (nI (sm (fun v => 2 ^ shf (ds n E t) n v * p v) i), nI i) ∧ ∀ v, v < i → p v < 2 ^ ds n E t v) ?_ ?_ ⟨rfl, fun v hv => absurd hv (Nat.not_lt_zero _)⟩ (by omega)
    · rintro i st hi ⟨rfl, h1⟩
      have hw := w_le h15 hi
      have hpw := pw_lt (show ds n E t i ≤ 15 by omega)
      have hp3 := hp2 i (by omega)
      by_cases hpi : p i < 2 ^ ds n E t i
      · left
        refine ⟨_, ?_, rfl, fun v hv => ?_⟩
        · simp only [G_210_4]
          rw [ix0, Option.bind_some, hM.1, if_neg (nI_ge hi (by omega)), m176 hP (by omega), Option.bind_some, ixn (by omega) (by decide), Option.bind_some, (hT.1.2 i hi).1, (hT.1.2 i hi).2, if_pos (nI_lt hpi (by omega)), Option.bind_some, pk_mul, nI_add, nI_1]
          rfl
        · rcases Nat.lt_or_ge v i with h2 | h2
          · exact h1 v h2
          · obtain rfl : v = i := by omega
            exact hpi
      · right
        refine ⟨.inr 1, ?_, .inl ⟨rfl, ?_⟩⟩
        · simp only [G_210_4]
          rw [ix0, Option.bind_some, hM.1, if_neg (nI_ge hi (by omega)), m176 hP (by omega), Option.bind_some, ixn (by omega) (by decide), Option.bind_some, (hT.1.2 i hi).1, if_neg (nI_nlt (by omega) hp3)]
        · cases hb : inb n (ds n E t) p with
          | false => rfl
          | true => exact absurd (inb_iff.mp hb i hi) hpi
    · rintro st ⟨rfl, h1⟩
      refine ⟨.inl (nI (hx (ds n E t) p n)), ?_, .inr ⟨rfl, inb_iff.mpr h1⟩⟩
      simp only [G_210_4]
      rw [ix0, Option.bind_some, hM.1, if_pos (nI_le (Nat.le_refl _) (by omega)), hx_sum n (Nat.le_refl _), Nat.sub_self, Nat.pow_zero, Nat.mul_one]
  unfold F_210 hold
  rw [e1, Option.bind_some]
  rcases hx1 with ⟨rfl, h2⟩ | ⟨rfl, h2⟩
  · rw [h2]; rfl
  · have hlt := hx_lt (w := ds n E t) (inb_iff.mp h2)
    dsimp only
    rw [ixn (N_le h15 hlt) (by decide), Option.bind_some, hT.2.2 _ hlt, bI_ok, h2, Bool.true_and]
/-- a move tried, taken back -/
theorem m213 {M : Md} {p : Nat → Nat} (hM : MR n E M.now) (hP : MP p M.now) (hT : TB n E t M) (hp9 : ∀ v, v < 6 → p v ≤ 999) (h : Gr n E) (hc : Cn n E) (ht : t < n) {u v : Nat} (hu : u < n) (hv : v < n) (x : Int32) : F_213 M (nI u) (nI v) x = some (bI (gd n E t p u v), M) := by
  have hn := h.2.1
  have hp31 : ∀ v, v < 6 → p v < 2 ^ 31 := fun v hv => by have := hp9 v hv; omega
  unfold F_213 gd
  rw [m192 hM hP hp31 (by omega) (by omega), Option.bind_some]
  by_cases hm : mv E p u v = true
  · rw [if_pos (by rw [bI_0]; exact fun q => q hm), hm, Bool.true_and]
    have hm' := hm
    unfold mv at hm'
    rw [Bool.and_eq_true, Bool.and_eq_true, decide_eq_true_eq] at hm'
    have hne := h.ne hv hm'.1.2
    obtain ⟨f1, hf1⟩ : ∃ f1, upd M.now (7 + u) (M.now (7 + u) - 2) = f1 := ⟨_, rfl⟩
    obtain ⟨f2, hf2⟩ : ∃ f2, upd f1 (7 + v) (f1 (7 + v) + 1) = f2 := ⟨_, rfl⟩
    obtain ⟨f3, hf3⟩ : ∃ f3, upd f2 13 (f2 13 + 1) = f3 := ⟨_, rfl⟩
    have e5 : ∀ f g, (M.w_now f).w_now g = M.w_now g := fun _ _ => rfl
    have e6 : ∀ f, (M.w_now f).now = f := fun _ => rfl
    have e190 : F_190 M (nI u) (nI v) = some (M.w_now f3) := by
      unfold F_190
      rw [i7a, ixn (by omega) (by decide), Option.bind_some, hf1, Option.bind_some, i7a, ixn (by omega) (by decide), Option.bind_some, e6, hf2, e5, Option.bind_some, show ix 13 93 = some 13 from ixn (i := 13) (by decide) (by decide), Option.bind_some, e6, hf3, e5, Option.bind_some]
    have hMR : MR n E (M.w_now f3).now := by
      refine ⟨?_, fun w hw => ?_⟩
      · show f3 0 = _
        rw [← hf3, pk_un (by omega), ← hf2, pk_un (by omega), ← hf1, pk_un (by omega)]; exact hM.1
      · show f3 (1 + w) = _
        rw [← hf3, pk_un (by omega), ← hf2, pk_un (by omega), ← hf1, pk_un (by omega)]; exact hM.2 w hw
    have hMP : MP (pmv p u v) (M.w_now f3).now := by
      intro w hw
      show f3 (7 + w) = _
      have e1 : M.now (7 + u) - 2 = nI (p u - 2) := by rw [hP u (by omega), z2, pk_sub hm'.1.1]
      rw [← hf3, pk_un (by omega), ← hf2]
      unfold pmv
      by_cases h3 : w = v
      · subst h3
        rw [pk_us, if_pos rfl, if_neg (fun q => hne q.symm), ← hf1, pk_un (by omega), hP w hw, nI_1]
      · rw [pk_un (by omega), if_neg h3, ← hf1]
        by_cases h4 : w = u
        · subst h4; rw [pk_us, if_pos rfl, e1]
        · rw [pk_un (by omega), if_neg h4, hP w hw]
    have hpm : ∀ w, w < 6 → pmv p u v w < 2 ^ 31 := fun w hw => by
      have := hp9 w hw
      have := hp9 u (by omega)
      have := hp9 v (by omega)
      unfold pmv
      repeat' split
      all_goals omega
    have e210 := m210 hMR hMP (M := M.w_now f3) hT hpm h hc ht x
    have hback : upd (upd (upd f3 (7 + u) (f3 (7 + u) + 2)) (7 + v) (upd f3 (7 + u) (f3 (7 + u) + 2) (7 + v) - 1)) 13 (upd (upd f3 (7 + u) (f3 (7 + u) + 2)) (7 + v) (upd f3 (7 + u) (f3 (7 + u) + 2) (7 + v) - 1) 13 - 1) = M.now := by
      funext w
      by_cases q1 : w = 13
      · subst q1
        rw [pk_us, pk_un (by omega), pk_un (by omega), ← hf3, pk_us, ← hf2, pk_un (by omega), ← hf1, pk_un (by omega)]
        exact i32_back2 _ _
      · rw [pk_un q1]
        by_cases q2 : w = 7 + v
        · subst q2
          rw [pk_us, pk_un (by omega), ← hf3, pk_un (by omega), ← hf2, pk_us, ← hf1, pk_un (by omega)]
          exact i32_back2 _ _
        · rw [pk_un q2]
          by_cases q3 : w = 7 + u
          · subst q3
            rw [pk_us, ← hf3, pk_un (by omega), ← hf2, pk_un (by omega), ← hf1, pk_us]
            exact i32_back _ _
          · rw [pk_un q3, ← hf3, pk_un q1, ← hf2, pk_un q2, ← hf1, pk_un q3]
    have e191 : F_191 (M.w_now f3) (nI u) (nI v) = some M := by
      unfold F_191
      rw [i7a, ixn (by omega) (by decide), Option.bind_some, e6, e5, Option.bind_some, i7a, ixn (by omega) (by decide), Option.bind_some, e6, e5, Option.bind_some, show ix 13 93 = some 13 from ixn (i := 13) (by decide) (by decide), Option.bind_some, e6, e5, hback, Option.bind_some]
      rfl
    rw [e190, Option.bind_some, e210, Option.bind_some, e191, Option.bind_some, bI_ok]
  · rw [if_neg (by rw [bI_0]; exact fun q => q hm), (by simpa using hm : mv E p u v = false)]; rfl
theorem m214 {M : Md} {p : Nat → Nat} (hM : MR n E M.now) (hP : MP p M.now) (hT : TB n E t M) (hp9 : ∀ v, v < 6 → p v ≤ 999) (h : Gr n E) (hc : Cn n E) (ht : t < n) : F_214 M (nI t) = some (pI (nxm n E t p), M) := by
  have hn := h.2.1
  have inner : ∀ u, u < n → ∃ x, lw (G_214_14 (nI t) (nI u)) 200000 (0, M) = some x ∧ ((ffs (gd n E t p u) 0 n = none ∧ x = .inl M) ∨ ∃ v, ffs (gd n E t p u) 0 n = some v ∧ x = .inr (nI (10 * u + v), M)) := by
    intro u hu
    refine lw_for (n := n) (fun i st => st = (nI i, M) ∧ ffs (gd n E t p u) 0 n = ffs (gd n E t p u) i (n - i)) ?_ ?_ ⟨rfl, by rw [Nat.sub_zero]⟩ (by omega)
    · rintro i st hi ⟨rfl, h1⟩
      obtain ⟨k, hk⟩ : ∃ k, n - i = k + 1 := ⟨n - i - 1, by omega⟩
      have hk2 : n - (i + 1) = k := by omega
      rw [hk, ffs] at h1
      simp only [G_214_14]
      rw [ix0, Option.bind_some, hM.1, if_neg (nI_ge hi (by omega)), m213 hM hP hT hp9 h hc ht hu hi, Option.bind_some]
      dsimp only
      by_cases hg : gd n E t p u i = true
      · right
        rw [if_pos hg] at h1
        refine ⟨.inr (nI (10 * u + i), M), ?_, .inr ⟨i, h1, rfl⟩⟩
        rw [if_neg (by rw [bI_0]; exact fun q => q hg), z10, pk_mul, nI_add]
      · left
        rw [if_neg hg] at h1
        refine ⟨(nI (i + 1), M), ?_, rfl, by rw [hk2]; exact h1⟩
        rw [if_pos (bI_0.mpr hg), nI_1]
    · rintro st ⟨rfl, h1⟩
      refine ⟨.inl M, ?_, .inl ⟨?_, rfl⟩⟩
      · simp only [G_214_14]
        rw [ix0, Option.bind_some, hM.1, if_pos (nI_le (Nat.le_refl _) (by omega))]
      · rw [h1, Nat.sub_self]; rfl
  obtain ⟨x, e1, hx1⟩ : ∃ x, lw (G_214_2 (nI t)) 200000 (0, M) = some x ∧ ((nxm n E t p = none ∧ x = .inl M) ∨ ∃ m, nxm n E t p = some m ∧ x = .inr (nI m, M)) := by
    refine lw_for (n := n) (fun i st => st = (nI i, M) ∧ nxm n E t p = nmv n E t p i (n - i)) ?_ ?_ ⟨rfl, by rw [Nat.sub_zero]; rfl⟩ (by omega)
    · rintro i st hi ⟨rfl, h1⟩
      obtain ⟨k, hk⟩ : ∃ k, n - i = k + 1 := ⟨n - i - 1, by omega⟩
      have hk2 : n - (i + 1) = k := by omega
      rw [hk, nmv] at h1
      obtain ⟨x, e1, ⟨q1, rfl⟩ | ⟨v, q1, rfl⟩⟩ := inner i hi
      · left
        rw [q1] at h1
        refine ⟨(nI (i + 1), M), ?_, rfl, by rw [hk2]; exact h1⟩
        simp only [G_214_2]
        rw [ix0, Option.bind_some, hM.1, if_neg (nI_ge hi (by omega)), e1, Option.bind_some, nI_1]
      · right
        rw [q1] at h1
        refine ⟨.inr (nI (10 * i + v), M), ?_, .inr ⟨_, h1, rfl⟩⟩
        simp only [G_214_2]
        rw [ix0, Option.bind_some, hM.1, if_neg (nI_ge hi (by omega)), e1, Option.bind_some]
    · rintro st ⟨rfl, h1⟩
      refine ⟨.inl M, ?_, .inl ⟨?_, rfl⟩⟩
      · simp only [G_214_2]
        rw [ix0, Option.bind_some, hM.1, if_pos (nI_le (Nat.le_refl _) (by omega))]
      · rw [h1, Nat.sub_self]; rfl
  unfold F_214
  rw [e1, Option.bind_some]
  rcases hx1 with ⟨q, rfl⟩ | ⟨m, q, rfl⟩
  · rw [q]; rfl
  · rw [q]; rfl
/-- the number -/
theorem m227 {M : Md} (hM : MR n E M.now) (h : Gr n E) (hc : Cn n E) (ht : t < n) : ∃ M' k, F_227 M (nI t) = some (nI (k + 1), M') ∧ MF M M' ∧ TB n E t M' ∧ k ≤ 57 ∧ (∀ c, c < 2 ^ sm (ds n E t) n → fa n (ad E) (ds n E t) c = true → tot (ds n E t) n c ≤ k) ∧ ∃ c, c < 2 ^ sm (ds n E t) n ∧ skf n E t k c = true := by
  have hn := h.2.1
  have h15 := (ds_15 h hc ht).1
  have hN' : 2 ^ sm (ds n E t) n ≤ 32768 := pw_lt h15
  have hN0 : 0 < 2 ^ sm (ds n E t) n := Nat.two_pow_pos _
  have hfa0 : fa n (ad E) (ds n E t) 0 = true := by
    rw [fa_iff h.ir hN0]
    intro v o hv ho h2
    rw [dg_zero] at h2; omega
  obtain ⟨M', e1, f1, hT⟩ := m209 hM h hc ht
  obtain ⟨x, e2, k, rfl, k1, k2, k3⟩ : ∃ x, lw (G_227_9 M') 200000 (0, 0) = some x ∧ ∃ k, x = nI k ∧ k ≤ 57 ∧ (∀ c, c < 2 ^ sm (ds n E t) n → fa n (ad E) (ds n E t) c = true → tot (ds n E t) n c ≤ k) ∧ ∃ c, c < 2 ^ sm (ds n E t) n ∧ skf n E t k c = true := by
    refine lw_for (n := 2 ^ sm (ds n E t) n) (fun i st => ∃ k, st = (nI k, nI i) ∧ k ≤ 57 ∧ (∀ c, c < i → fa n (ad E) (ds n E t) c = true → tot (ds n E t) n c ≤ k) ∧ ∃ c, c < 2 ^ sm (ds n E t) n ∧ skf n E t k c = true) ?_ ?_ ⟨0, rfl, by omega, fun c hcN => absurd hcN (Nat.not_lt_zero _), 0, hN0, by unfold skf; rw [hfa0, decide_eq_true (tot_zero _ _)]; rfl⟩ (by omega)
    · rintro i st hi ⟨k, rfl, k1, k2, k3⟩
      left
      have ht57 := tot_57 (c := i) h hc ht
      simp only [G_227_9, J_227_9_j40]
      rw [hT.1.1, if_neg (nI_ge hi (by omega)), ixn (by omega) (by decide), Option.bind_some, hT.2.2 i hi, hT.2.1 i hi]
      cases hf : fa n (ad E) (ds n E t) i
      · rw [if_neg (by decide), nI_1]
        refine ⟨_, rfl, k, rfl, k1, fun c hcN hfc => ?_, k3⟩
        by_cases q : c = i
        · subst q; rw [hf] at hfc; cases hfc
        · exact k2 c (by omega) hfc
      · rw [if_pos (by decide), imx_n (by omega) (by omega), nI_1]
        refine ⟨_, rfl, max k (tot (ds n E t) n i), rfl, by omega, fun c hcN hfc => ?_, ?_⟩
        · by_cases q : c = i
          · subst q; omega
          · have := k2 c (by omega) hfc; omega
        · rcases Nat.le_total (tot (ds n E t) n i) k with q | q
          · rw [Nat.max_eq_left q]; exact k3
          · rw [Nat.max_eq_right q]
            exact ⟨i, hi, by unfold skf; rw [hf, decide_eq_true rfl]; rfl⟩
    · rintro st ⟨k, rfl, k1, k2, k3⟩
      refine ⟨nI k, ?_, k, rfl, k1, k2, k3⟩
      simp only [G_227_9]
      rw [hT.1.1, if_pos (nI_le (Nat.le_refl _) (by omega))]
  refine ⟨M', k, ?_, f1, hT, k1, k2, k3⟩
  unfold F_227
  rw [e1, Option.bind_some, e2, Option.bind_some, nI_1]
theorem m230 {M : Md} (hT : TB n E t M) (h : Gr n E) (hc : Cn n E) (ht : t < n) {c k : Nat} (hcN : c < 2 ^ sm (ds n E t) n) (hk : k < 2 ^ 31) : F_230 M (nI c) (nI k) = some (bI (skf n E t k c)) := by
  have h15 := (ds_15 h hc ht).1
  have ht57 := tot_57 (c := c) h hc ht
  simp only [F_230, J_230_0_j23, J_230_0_j24]
  rw [ixn (N_le h15 hcN) (by decide), Option.bind_some, hT.2.2 c hcN, hT.2.1 c hcN]
  unfold skf
  cases hf : fa n (ad E) (ds n E t) c
  · rw [if_pos (by decide)]; rfl
  · rw [if_neg (by decide)]
    by_cases q : tot (ds n E t) n c = k
    · rw [if_neg (by rw [q]; exact fun z => z rfl), decide_eq_true q]; rfl
    · rw [if_pos (by rw [nI_eq (by omega) hk]; exact q), decide_eq_false q]; rfl
theorem m232 {M : Md} (hT : TB n E t M) (h : Gr n E) (hc : Cn n E) (ht : t < n) {k : Nat} (hk : k < 2 ^ 31) : F_232 M (nI k) = some (nI (ct (skf n E t k) (2 ^ sm (ds n E t) n))) := by
  have h15 := (ds_15 h hc ht).1
  have hN' : 2 ^ sm (ds n E t) n ≤ 32768 := pw_lt h15
  have e1 : lw (G_232_4 M (nI k)) 200000 (0, 0) = some (nI (ct (skf n E t k) (2 ^ sm (ds n E t) n))) := by
    refine lw_seq (fun i => (nI (ct (skf n E t k) i), nI i)) (n := 2 ^ sm (ds n E t) n) ?_ ?_ (by omega)
    · intro i hi
      simp only [G_232_4, J_232_4_j27]
      rw [hT.1.1, if_neg (nI_ge hi (by omega)), m230 hT h hc ht hi hk, Option.bind_some, ct]
      by_cases q : skf n E t k i = true
      · rw [if_neg (by rw [bI_0]; exact fun z => z q), if_pos q, nI_1, nI_1]
      · rw [if_pos (bI_0.mpr q), if_neg q, z0, nI_add, nI_1]
    · simp only [G_232_4]
      rw [hT.1.1, if_pos (nI_le (Nat.le_refl _) (by omega))]
  unfold F_232
  rw [e1]
  rfl
/-- the first worst pile -/
theorem m231l {M : Md} (hT : TB n E t M) (h : Gr n E) (hc : Cn n E) (ht : t < n) {k c0 : Nat} (hk : k < 2 ^ 31) (h1 : c0 < 2 ^ sm (ds n E t) n) (h2 : skf n E t k c0 = true) (h3 : ∀ c, c < 2 ^ sm (ds n E t) n → skf n E t k c = true → c0 ≤ c) (x2 : Int32) : lw (G_231_32 M x2 (nI k)) 200000 0 = some (nI c0) := by
  have h15 := (ds_15 h hc ht).1
  have hN' : 2 ^ sm (ds n E t) n ≤ 32768 := pw_lt h15
  refine lw_seq (fun i => nI i) (n := c0) ?_ ?_ (by omega)
  · intro i hi
    simp only [G_231_32]
    rw [m230 hT h hc ht (by omega) hk, Option.bind_some, if_neg ?_, nI_1]
    rw [bI_0]
    intro q
    refine q fun z => ?_
    have := h3 i (by omega) z
    omega
  · simp only [G_231_32]
    rw [m230 hT h hc ht h1 hk, Option.bind_some, if_pos (by rw [bI_0]; exact fun z => z h2)]
end ML
