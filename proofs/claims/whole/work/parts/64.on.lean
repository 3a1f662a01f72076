/-! ===== THE MODEL'S WALK OVER THE PILES AHEAD ===== -/
variable {n E : Nat} {p : Nat → Nat}
theorem pre_get {K t : List Nat} {j c : Nat} (h : K[j]? = some c) : (K ++ t)[j]? = some c := by
  rcases Nat.lt_or_ge j K.length with w | w
  · rw [List.getElem?_append_left w]; exact h
  · rw [List.getElem?_eq_none w] at h; cases h
theorem m220 {T : Nat} {M : Md} {K : List Nat} (hM : MR n E M.now) (hG : Gr n E) (ht : sm p n ≤ 14) (hT : MT n T M K) (hTp : sm p n ≤ T) (hT2 : T < 2 ^ 31) (hK : LI n p K) {i c : Nat} (hi : K[i]? = some c) :
    ∃ M', F_220 M (nI i) = some M' ∧ MT n T M' (wk2 n E c K n) ∧ MF M M' := by
  have hn := hG.2.1
  have hc := hK.2 c (List.mem_of_getElem? hi)
  have hmc := mc_lt hc ht hn
  have hil : i < K.length := by
    rcases Nat.lt_or_ge i K.length with w | w
    · exact w
    · rw [List.getElem?_eq_none w] at hi; cases hi
  have hL := LI_few hn ht hK
  have hct := hc.2.1
  have inner : ∀ {X K u}, u < n → 2 ≤ qd c u → LI n p K → K[i]? = some c → MT n T X K → X.now = M.now → ∃ r, lw (G_220_46 (nI i) (nI (mc n c)) (nI u) (nI (mc n c - 2 * 15 ^ u))) 200000 (0, X) = some r ∧ MT n T r (wk1 E c u K n) ∧ MF X r := by
    intro X K u hu h2 hK hi hT hX
    refine lw_for (n := n) (fun v st => ∃ X', st = (nI v, X') ∧ MT n T X' (wk1 E c u K v) ∧ MF X X') ?_ ?_ ⟨X, rfl, hT, MF.rf X⟩ (by omega)
    · rintro v st hv ⟨X', rfl, a1, a2⟩
      left
      have hMR : MR n E X'.now := by rw [a2.now, hX]; exact hM
      have hLv := LI_wk1 hG ht hK hc hu h2 v (by omega)
      by_cases q : ad E u v = true
      · have hne := hG.ne hv q
        have h1 := qd_tot hu hv hne h2 (by omega)
        have hV := VC_mv hc ht hu hv hne h2
        obtain ⟨g1, g2⟩ := mc_qm hu hv hne h2 h1
        have g3 := qm_tot hu hv hne h2 h1
        obtain ⟨M2, e2, t2, s2⟩ := m218 hn ht a1 hLv hV
        have w1 : wk1 E c u K (v + 1) = ins (wk1 E c u K v) (qm c u v) := by rw [wk1, if_pos q]
        obtain ⟨t, htt⟩ := wk1_pre E c u K v
        have hmv := (a1.2.2 i c (by rw [htt]; exact pre_get hi)).2
        have hb15 := p15_le (k := v) (by omega)
        refine ⟨(nI (v + 1), M2), ?_, M2, rfl, by rw [w1]; exact t2, a2.tr s2⟩
        simp only [G_220_46]
        rw [show ix 0 93 = some 0 from rfl, Option.bind_some, hMR.1, if_neg (nI_ge hv (by omega)), m175 hMR (by omega) (by omega), Option.bind_some, q, if_neg (by decide), m217 (by omega), Option.bind_some, ixn (by omega) (by decide), Option.bind_some, hmv, nI_add, g2, nI_1, show T - sm (qd c) n + 1 = T - sm (qd (qm c u v)) n by omega, e2, Option.bind_some]
        simp only [J_220_46_j89]
        rw [nI_1]
      · have w1 : wk1 E c u K (v + 1) = wk1 E c u K v := by rw [wk1, if_neg q]
        refine ⟨(nI (v + 1), X'), ?_, X', rfl, by rw [w1]; exact a1, a2⟩
        simp only [G_220_46]
        rw [show ix 0 93 = some 0 from rfl, Option.bind_some, hMR.1, if_neg (nI_ge hv (by omega)), m175 hMR (by omega) (by omega), Option.bind_some, Bool.eq_false_iff.2 q, if_pos (by decide)]
        simp only [J_220_46_j89]
        rw [nI_1]
    · rintro st ⟨X', rfl, a1, a2⟩
      have hMR : MR n E X'.now := by rw [a2.now, hX]; exact hM
      refine ⟨X', ?_, a1, a2⟩
      simp only [G_220_46]
      rw [show ix 0 93 = some 0 from rfl, Option.bind_some, hMR.1, if_pos (nI_le (Nat.le_refl _) (by omega))]
  have outer : ∃ r, lw (G_220_9 (nI i) (nI (mc n c))) 200000 (0, M) = some r ∧ MT n T r (wk2 n E c K n) ∧ MF M r := by
    refine lw_for (n := n) (fun u st => ∃ X', st = (nI u, X') ∧ MT n T X' (wk2 n E c K u) ∧ MF M X') ?_ ?_ ⟨M, rfl, hT, MF.rf M⟩ (by omega)
    · rintro u st hu ⟨X', rfl, a1, a2⟩
      left
      have hMR : MR n E X'.now := by rw [a2.now]; exact hM
      have hLu := LI_wk2 hG ht hK hc u (by omega)
      have hlt := qd_lt c u
      by_cases q : 2 ≤ qd c u
      · have w1 : wk2 n E c K (u + 1) = wk1 E c u (wk2 n E c K u) n := by rw [wk2, if_pos q]
        obtain ⟨t, htt⟩ := wk2_pre n E c K u
        have hiu : (wk2 n E c K u)[i]? = some c := by rw [htt]; exact pre_get hi
        obtain ⟨r, e2, t2, s2⟩ := inner hu q hLu hiu a1 a2.now
        have hm := sm_mem (f := fun v => qd c v * 15 ^ v) hu
        have hm2 : 2 * 15 ^ u ≤ qd c u * 15 ^ u := Nat.mul_le_mul_right _ q
        have hb15 := p15_le (k := u) (by omega)
        refine ⟨(nI (u + 1), r), ?_, r, rfl, by rw [w1]; exact t2, a2.tr s2⟩
        simp only [G_220_9]
        rw [show ix 0 93 = some 0 from rfl, Option.bind_some, hMR.1, if_neg (nI_ge hu (by omega)), m219d hc ht hn hu, Option.bind_some, z2, if_pos (nI_le q (by omega)), m217 (by omega), Option.bind_some, pk_mul, pk_sub (by unfold mc; omega), e2, Option.bind_some]
        simp only [J_220_9_j95]
        rw [nI_1]
      · have w1 : wk2 n E c K (u + 1) = wk2 n E c K u := by rw [wk2, if_neg q]
        refine ⟨(nI (u + 1), X'), ?_, X', rfl, by rw [w1]; exact a1, a2⟩
        simp only [G_220_9]
        rw [show ix 0 93 = some 0 from rfl, Option.bind_some, hMR.1, if_neg (nI_ge hu (by omega)), m219d hc ht hn hu, Option.bind_some, z2, if_neg (nI_ge (by omega) (by decide))]
        simp only [J_220_9_j95]
        rw [nI_1]
    · rintro st ⟨X', rfl, a1, a2⟩
      have hMR : MR n E X'.now := by rw [a2.now]; exact hM
      refine ⟨X', ?_, a1, a2⟩
      simp only [G_220_9]
      rw [show ix 0 93 = some 0 from rfl, Option.bind_some, hMR.1, if_pos (nI_le (Nat.le_refl _) (by omega))]
  obtain ⟨r, hr, a1, a2⟩ := outer
  refine ⟨r, ?_, a1, a2⟩
  unfold F_220
  rw [ixn (by omega) (by decide), Option.bind_some, (hT.2.2 i c hi).1, hr, Option.bind_some]
/-- a pile, read from its end -/
def hr15 (n : Nat) (p : Nat → Nat) : Nat → Nat
  | 0 => 0
  | i + 1 => 15 * hr15 n p i + p (n - 1 - i)
theorem hr_ok (n : Nat) (p : Nat → Nat) : ∀ i, i ≤ n → hr15 n p i * 15 ^ (n - i) + sm (fun v => p v * 15 ^ v) (n - i) = sm (fun v => p v * 15 ^ v) n
  | 0, _ => by rw [hr15, Nat.zero_mul, Nat.zero_add, Nat.sub_zero]
  | i + 1, hi => by
    have ih := hr_ok n p i (by omega)
    obtain ⟨k, hk⟩ : ∃ k, n - i = k + 1 := ⟨n - i - 1, by omega⟩
    rw [hk, show sm (fun v => p v * 15 ^ v) (k + 1) = sm (fun v => p v * 15 ^ v) k + p k * 15 ^ k from rfl, Nat.pow_succ] at ih
    rw [show n - (i + 1) = k by omega, hr15, show n - 1 - i = k by omega, Nat.add_mul]
    have : hr15 n p i * (15 ^ k * 15) = 15 * hr15 n p i * 15 ^ k := by rw [Nat.mul_comm (15 ^ k), ← Nat.mul_assoc, Nat.mul_comm (hr15 n p i) 15]
    omega
theorem m216 {M : Md} (hM : MR n E M.now) (hP : MP p M.now) (hG : Gr n E) : F_216 M = some (nI (sm (fun v => p v * 15 ^ v) n)) := by
  have hn := hG.2.1
  unfold F_216
  have key : lw (G_216_11 M) 200000 (0, nI n - 1) = some (nI (hr15 n p n)) := by
    refine lw_seq (fun i => (nI (hr15 n p i), nI (n - i) - 1)) (n := n) (fun i hi => ?_) ?_ (by omega)
    · simp only [G_216_11]
      have e : nI (n - i) - 1 = nI (n - 1 - i) := by rw [z1, pk_sub (by omega)]; congr 1; omega
      have e2 : nI (n - 1 - i) + (-1) = nI (n - (i + 1)) - 1 := by
        rw [show n - 1 - i = n - (i + 1) by omega]
        exact (Int32.sub_eq_add_neg _ _).symm
      rw [e, if_neg (nI_pos (by omega)), m176 hP (by omega), Option.bind_some, e2, z15, pk_mul, nI_add]
      rfl
    · simp only [G_216_11]
      rw [Nat.sub_self, if_pos (by decide +kernel)]
  rw [show ix 0 93 = some 0 from rfl, Option.bind_some, hM.1, key, Option.bind_some]
  have := hr_ok n p n (Nat.le_refl _)
  rw [Nat.sub_self, Nat.pow_zero, Nat.mul_one, sm, Nat.add_zero] at this
  rw [this]
theorem m221 {M : Md} (hM : MR n E M.now) (hP : MP p M.now) (hG : Gr n E) (ht : sm p n ≤ 14) :
    ∃ M', F_221 M = some M' ∧ MT n (sm p n) M' (qa n E (qc p n)) ∧ MF M M' := by
  have hn := hG.2.1
  have h16 : ∀ v, v < n → p v < 16 := fun v hv => sm16 ht hv
  have hl := qc_lt h16
  have hqd := qc_qd h16
  have hs : sm (qd (qc p n)) n = sm p n := sm_cong hqd
  have hV : VC n p (qc p n) := by
    refine ⟨hl, by omega, ?_⟩
    have : ∀ k, k ≤ n → sm (fun v => qd (qc p n) v - p v) k = 0 := fun k hk => by
      induction k with
      | zero => rfl
      | succ k ih => rw [sm, ih (by omega), hqd k (by omega), Nat.sub_self]
    rw [this n (Nat.le_refl _)]
    exact Nat.zero_le _
  have LW := LI_wk hG ht hV
  obtain ⟨N, n1, n2, n3, n4⟩ := wk_end hG hl (by omega)
  have clear : ∃ r, lw (G_221_2) 200000 (0, M) = some r ∧ (∀ j, j < 131072 → r.places j = -1) ∧ MF M r := by
    refine lw_for (n := 131072) (fun i st => ∃ X, st = (nI i, X) ∧ (∀ j, j < i → X.places j = -1) ∧ MF M X) ?_ ?_ ⟨M, rfl, fun j hj => absurd hj (Nat.not_lt_zero _), MF.rf M⟩ (by decide)
    · rintro i st hi ⟨X, rfl, a1, a2⟩
      left
      obtain ⟨y, hy, b1, _, _, _, b5⟩ := md_places X (upd X.places i (-1))
      refine ⟨(nI (i + 1), y), ?_, y, rfl, fun j hj => ?_, a2.tr b5⟩
      · simp only [G_221_2]
        rw [show (131072 : Int32) = nI 131072 from rfl, if_neg (nI_ge hi (by decide)), ixn hi (by decide), Option.bind_some, hy, Option.bind_some, nI_1]
      · rw [b1]
        by_cases q : j = i
        · rw [q, pk_us]
        · rw [pk_un q]; exact a1 j (by omega)
    · rintro st ⟨X, rfl, a1, a2⟩
      refine ⟨X, ?_, a1, a2⟩
      simp only [G_221_2]
      rw [show (131072 : Int32) = nI 131072 from rfl, if_pos (nI_le (Nat.le_refl _) (by decide))]
  obtain ⟨X1, e1, a1, f1⟩ := clear
  obtain ⟨X2, e2, b1, b2, b3, b4, f2⟩ := md_metMany X1 0
  have T2 : MT n (sm p n) X2 [] := ⟨⟨fun _ => 0, fun j hj => by rw [b1, a1 j hj]; show -1 = nI 0 - 1; decide +kernel, HT.nil fun _ _ => rfl⟩, b4.trans nI_0.symm, fun j c h => by simp at h⟩
  have hM2 : MR n E X2.now := by rw [(f1.tr f2).now]; exact hM
  have hP2 : MP p X2.now := by rw [(f1.tr f2).now]; exact hP
  obtain ⟨X3, e3, T3, f3⟩ := m218 hn ht T2 ⟨List.Pairwise.nil, fun c hc => absurd hc List.not_mem_nil⟩ hV
  have hmc : mc n (qc p n) = sm (fun v => p v * 15 ^ v) n := sm_cong fun v hv => by show qd (qc p n) v * 15 ^ v = _; rw [hqd v hv]
  have e3' : F_218 X2 (nI (sm (fun v => p v * 15 ^ v) n)) 0 = some X3 := by
    rw [hmc, hs, Nat.sub_self, nI_0] at e3
    exact e3
  have T3' : MT n (sm p n) X3 (wk n E (qc p n) 0) := T3
  have main : ∃ r, lw (G_221_37) 200000 (0, X3) = some r ∧ MT n (sm p n) r (qa n E (qc p n)) ∧ MF X3 r := by
    rw [n4]
    refine lw_for (n := N) (fun i st => ∃ X, st = (nI i, X) ∧ MT n (sm p n) X (wk n E (qc p n) i) ∧ MF X3 X) ?_ ?_ ⟨X3, rfl, T3', MF.rf X3⟩ (by omega)
    · rintro i st hi ⟨X, rfl, a1, a2⟩
      left
      have hil := n3 i hi
      have hMX : MR n E X.now := by rw [(((f1.tr f2).tr f3).tr a2).now]; exact hM
      have hlen := LI_few hn ht (LW i)
      obtain ⟨Y, g1, g2, g3⟩ := m220 hMX hG ht a1 (Nat.le_refl _) (by omega) (LW i) (List.getElem?_eq_getElem hil)
      refine ⟨(nI (i + 1), Y), ?_, Y, rfl, by rw [wk_next hil]; exact g2, a2.tr g3⟩
      simp only [G_221_37]
      rw [a1.2.1, if_neg (nI_ge hil (by omega)), g1, Option.bind_some, nI_1]
    · rintro st ⟨X, rfl, a1, a2⟩
      refine ⟨X, ?_, a1, a2⟩
      simp only [G_221_37]
      rw [a1.2.1, if_pos (nI_le n2 (by omega))]
  obtain ⟨r, hr, t1, t2⟩ := main
  refine ⟨r, ?_, t1, ((f1.tr f2).tr f3).tr t2⟩
  unfold F_221
  rw [e1, Option.bind_some, e2, Option.bind_some, m216 hM2 hP2 hG, Option.bind_some, e3', Option.bind_some, hr, Option.bind_some]
theorem m225 {M : Md} (hM : MR n E M.now) {c : Nat} (hc : VC n p c) (ht : sm p n ≤ 14) (hn : n ≤ 6) : F_225 M (nI (mc n c)) = some (nI (em n c)) := by
  unfold F_225
  have key : lw (G_225_4 M (nI (mc n c))) 200000 (0, 0) = some (nI (em n c)) := by
    refine lw_seq (fun i => (nI (em i c), nI i)) (n := n) (fun i hi => ?_) ?_ (by omega)
    · simp only [G_225_4]
      have hlt := qd_lt c i
      rw [show ix 0 93 = some 0 from rfl, Option.bind_some, hM.1, if_neg (nI_ge hi (by omega)), m219d hc ht hn hi, Option.bind_some]
      by_cases q : qd c i = 0
      · rw [q, nI_0, if_neg (fun k => k rfl)]
        simp only [J_225_4_j28]
        rw [nI_1, nI_1]
        unfold em
        rw [sm, if_pos q]
      · rw [if_pos (nI_ne0 (by omega) (by omega))]
        simp only [J_225_4_j28]
        rw [z0, nI_add, nI_1]
        unfold em
        rw [sm, if_neg q]
    · simp only [G_225_4]
      rw [show ix 0 93 = some 0 from rfl, Option.bind_some, hM.1, if_pos (nI_le (Nat.le_refl _) (by omega))]
  rw [key, Option.bind_some]
theorem qa_ok (hG : Gr n E) (ht : sm p n ≤ 14) : LI n p (qa n E (qc p n)) ∧ 0 < (qa n E (qc p n)).length ∧ sm (qd (qc p n)) n = sm p n := by
  have h16 : ∀ v, v < n → p v < 16 := fun v hv => sm16 ht hv
  have hl := qc_lt h16
  have hqd := qc_qd h16
  have hs : sm (qd (qc p n)) n = sm p n := sm_cong hqd
  have hV : VC n p (qc p n) := by
    refine ⟨hl, by omega, ?_⟩
    have : ∀ k, k ≤ n → sm (fun v => qd (qc p n) v - p v) k = 0 := fun k hk => by
      induction k with
      | zero => rfl
      | succ k ih => rw [sm, ih (by omega), hqd k (by omega), Nat.sub_self]
    rw [this n (Nat.le_refl _)]
    exact Nat.zero_le _
  refine ⟨LI_wk hG ht hV 8192, ?_, hs⟩
  obtain ⟨t, h⟩ := wk_pre (n := n) (E := E) (c0 := qc p n) 0 8192
  unfold qa
  rw [Nat.zero_add] at h
  rw [h, List.length_append]
  show 0 < 1 + t.length
  omega
theorem m226 {M : Md} (hM : MR n E M.now) (hP : MP p M.now) (hG : Gr n E) (ht : sm p n ≤ 14) :
    ∃ M', F_226 M = some (nI (ff n (qa n E (qc p n))), M') ∧ MF M M' := by
  have hn := hG.2.1
  obtain ⟨X, e1, t1, f1⟩ := m221 hM hP hG ht
  obtain ⟨L1, L2, L3⟩ := qa_ok hG ht
  have hlen := LI_few hn ht L1
  have hMX : MR n E X.now := by rw [f1.now]; exact hM
  have key : lw (G_226_9 X) 200000 (6, 0) = some (nI (min 6 (ff n (qa n E (qc p n))))) := by
    have a0 : ∀ i, i ≤ (qa n E (qc p n)).length → (if i = 0 then 6 else min 6 (ff n ((qa n E (qc p n)).take i))) ≤ 6 := fun i _ => by split <;> omega
    refine lw_seq (fun i => (nI (if i = 0 then 6 else min 6 (ff n ((qa n E (qc p n)).take i))), nI i)) (n := (qa n E (qc p n)).length) (fun i hi => ?_) ?_ (by omega)
    · simp only [G_226_9]
      have hem := em_le n ((qa n E (qc p n))[i])
      have hff := ff_le n ((qa n E (qc p n)).take i)
      rw [t1.2.1, if_neg (nI_ge hi (by omega)), ixn (by omega) (by decide), Option.bind_some, (t1.2.2 i _ (List.getElem?_eq_getElem hi)).1, m225 hMX (L1.2 _ (List.getElem_mem hi)) ht hn, Option.bind_some, imn_n (Nat.lt_of_le_of_lt (a0 i (by omega)) (by decide)) (by omega), nI_1]
      rw [if_neg (show ¬ i + 1 = 0 by omega), List.take_succ_eq_append_getElem hi, ff_app]
      by_cases q : i = 0
      · subst q
        rw [if_pos rfl, List.take_zero, show ff n [] = n from rfl]
        rw [show min 6 (em n (qa n E (qc p n))[0]) = min 6 (min n (em n (qa n E (qc p n))[0])) by omega]
      · rw [if_neg q, Nat.min_assoc]
    · simp only [G_226_9]
      rw [t1.2.1, if_pos (nI_le (Nat.le_refl _) (by omega)), if_neg (by omega), List.take_length]
  refine ⟨X, ?_, f1⟩
  have hff := ff_le n (qa n E (qc p n))
  unfold F_226
  rw [e1, Option.bind_some, key, Option.bind_some, show min 6 (ff n (qa n E (qc p n))) = ff n (qa n E (qc p n)) by omega]
/-- the fewest moves: the loop that looks -/
theorem m223l {M : Md} {T : Nat} (hT : MT n T M (qa n E (qc p n))) (hG : Gr n E) (ht : sm p n ≤ 14) {v : Nat} (hv : v < n) :
    ∃ k, lw (G_223_38 M (nI v)) 200000 0 = some (nI k) ∧ ((k = (qa n E (qc p n)).length ∧ fw n T (qa n E (qc p n)) v = none) ∨ (k < (qa n E (qc p n)).length ∧ ∃ m, M.moved k = nI m ∧ fw n T (qa n E (qc p n)) v = some m)) := by
  have hn := hG.2.1
  obtain ⟨L1, L2, L3⟩ := qa_ok hG ht
  have hlen := LI_few hn ht L1
  generalize hL : qa n E (qc p n) = L at *
  have : ∃ r, lw (G_223_38 M (nI v)) 200000 (nI 0) = some r ∧ ∃ k, r = nI k ∧ ((k = L.length ∧ fw n T L v = none) ∨ (k < L.length ∧ ∃ m, M.moved k = nI m ∧ fw n T L v = some m)) := by
    refine lw_for (n := L.length) (fun i st => st = nI i ∧ (L.take i).find? (fun c => decide (¬ qd c v = 0)) = none) ?_ ?_ ⟨rfl, rfl⟩ (by omega)
    · rintro i st hi ⟨rfl, h1⟩
      have hc := L1.2 _ (List.getElem_mem hi)
      have hlt := qd_lt L[i] v
      obtain ⟨g1, g2⟩ := hT.2.2 i _ (List.getElem?_eq_getElem hi)
      have step : G_223_38 M (nI v) (nI i) = if ¬ nI (qd L[i] v) = 0 then some (.inr (nI i)) else some (.inl (nI (i + 1))) := by
        simp only [G_223_38]
        rw [hT.2.1, if_neg (nI_ge hi (by omega)), ixn (by omega) (by decide), Option.bind_some, g1, m219d hc ht hn hv, Option.bind_some, nI_1]
      by_cases q : qd L[i] v = 0
      · left
        refine ⟨nI (i + 1), by rw [step, q, nI_0, if_neg (fun k => k rfl)], rfl, ?_⟩
        rw [List.take_succ_eq_append_getElem hi, List.find?_append, h1, Option.none_or, List.find?_singleton, if_neg (by simpa using q)]
      · right
        refine ⟨nI i, by rw [step, if_pos (nI_ne0 (by omega) (by omega))], i, rfl, .inr ⟨hi, _, g2, ?_⟩⟩
        unfold fw
        have : L.find? (fun c => decide (¬ qd c v = 0)) = some L[i] := by
          have e : L.take i ++ [L[i]] ++ L.drop (i + 1) = L := by rw [← List.take_succ_eq_append_getElem hi, List.take_append_drop]
          have key : ∀ x, L.take i ++ [x] ++ L.drop (i + 1) = L → ¬ qd x v = 0 → L.find? (fun c => decide (¬ qd c v = 0)) = some x := fun x ex qx => by
            rw [← ex, List.find?_append, List.find?_append, h1, Option.none_or, List.find?_singleton, if_pos (by simpa using qx), Option.some_or]
          exact key _ e q
        rw [this]
        rfl
    · rintro st ⟨rfl, h1⟩
      refine ⟨nI L.length, ?_, L.length, rfl, .inl ⟨rfl, ?_⟩⟩
      · simp only [G_223_38]
        rw [hT.2.1, if_pos (nI_le (Nat.le_refl _) (by omega))]
      · rw [List.take_length] at h1
        unfold fw
        rw [h1]
        rfl
  obtain ⟨r, hr, k, rfl, hk⟩ := this
  exact ⟨k, hr, hk⟩
