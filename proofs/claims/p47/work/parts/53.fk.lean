/-! ===== FAILING PILES: collect; whether a pile is held ===== -/
def skf (n E t k c : Nat) : Bool := fa n (ad E) (ds n E t) c && decide (tot (ds n E t) n c = k)
def FR (n E t : Nat) (P : FP) : Prop := ∃ (ln wc fw : Int32) (hm li sh nr mk : Nat → Int32) (k c0 : Nat), P = mF (nI t) 1 (nI n) (lN E) ln wc fw hm li sh nr mk ∧
  (∀ v, v < n → li v = nI (2 ^ ds n E t v - 1) ∧ sh v = nI (shf (ds n E t) n v) ∧ nr v = nI (nb E v)) ∧
  (∀ c, c < 2 ^ sm (ds n E t) n → MKf mk c = fa n (ad E) (ds n E t) c) ∧ (∀ c, c < 2 ^ sm (ds n E t) n → fa n (ad E) (ds n E t) c = true → tot (ds n E t) n c ≤ k) ∧
  ln = nI (k + 1) ∧ wc = nI (ct (skf n E t k) (2 ^ sm (ds n E t) n)) ∧ fw = nI c0 ∧ c0 < 2 ^ sm (ds n E t) n ∧ skf n E t k c0 = true ∧ (∀ c, c < 2 ^ sm (ds n E t) n → skf n E t k c = true → c0 ≤ c) ∧
  (∀ j, j < 100 → hm j = nI (ct (skf n E t j) (2 ^ sm (ds n E t) n)))
theorem ct_none {P : Nat → Bool} : ∀ {N : Nat}, (∀ c, c < N → P c = false) → ct P N = 0
  | 0, _ => rfl
  | N + 1, h => by rw [ct, ct_none (N := N) (fun c hc => h c (by omega)), h N (by omega)]; rfl
section FK
variable {n E t : Nat}
theorem fa_desc (h : Gr n E) : ∀ (m c K : Nat), tot (ds n E t) n c = K + m → c < 2 ^ sm (ds n E t) n → fa n (ad E) (ds n E t) c = true → ∃ d, d < 2 ^ sm (ds n E t) n ∧ fa n (ad E) (ds n E t) d = true ∧ tot (ds n E t) n d = K
  | 0, c, K, hm, hc, hf => ⟨c, hc, hf, hm⟩
  | m + 1, c, K, hm, hc, hf => by
    obtain ⟨v, hv, hd, hz⟩ := last_nz (w := ds n E t) (n := n) (c := c) (by omega)
    obtain ⟨q1, q2, q3⟩ := dg_sub hv hd
    have q4 : c - 2 ^ shf (ds n E t) n v + 2 ^ shf (ds n E t) n v = c := Nat.sub_add_cancel q1
    have q5 := tot_add hv q2
    rw [q4] at q5
    have qs : c - 2 ^ shf (ds n E t) n v < 2 ^ sm (ds n E t) n := Nat.lt_of_le_of_lt (Nat.sub_le _ _) hc
    have q6 := fa_mono h.ir _ (c - 2 ^ shf (ds n E t) n v) v (Nat.le_refl _) qs hv q2 (by rw [q4]; exact hf)
    exact fa_desc h m _ K (by omega) qs q6
theorem dg_zero (w : Nat → Nat) (n v : Nat) : dg w n 0 v = 0 := by
  unfold dg
  rw [Nat.zero_div, Nat.zero_mod]
theorem tot_zero (w : Nat → Nat) (n : Nat) : tot w n 0 = 0 := by
  have : ∀ m, sm (dg w n 0) m = 0 := fun m => by
    induction m with
    | zero => rfl
    | succ m ih => rw [sm, ih, dg_zero]
  exact this n
theorem c44 {W : Wd} {a : Nat} {P0 : FP} (ha : W.fp a = some P0) (hT : P0.target = nI t) (hB : CB n E W.board) (hD : CD n E W.board) (h : Gr n E) (hc : Cn n E) (ht : t < n) : ∃ P r, F_44 W a = some (wp W a P r) ∧ FR n E t P := by
  have hn := h.2.1
  have h15 := (ds_15 h hc ht).1
  obtain ⟨ln, wc, fw, hm, li, sh, nr, mk, e38, hG, hmk, hhm⟩ := c38 ha hT hB hD h ht
  have hMK0 : ∀ c, c < 32768 → MKf mk c = false := fun c hcN => by
    unfold MKf
    rw [hmk _ (by omega), b_0]
  obtain ⟨mk2, e39, h39⟩ := c39 (P := mF (nI t) 1 (nI n) (lN E) ln wc fw hm li sh nr mk) (c := 0) (by decide)
  have hN0 : 0 < 2 ^ sm (ds n E t) n := Nat.two_pow_pos _
  have hfa0 : fa n (ad E) (ds n E t) 0 = true := by
    rw [fa_iff h.ir hN0]
    intro v o hv ho h2
    rw [dg_zero] at h2; omega
  have hz : ∀ c, c < 2 ^ sm (ds n E t) n → tot (ds n E t) n c = 0 → c = 0 := fun c hcN h0 => by
    refine dg_ext hcN hN0 fun v hv => ?_
    have := sm_mem (f := dg (ds n E t) n c) hv
    unfold tot at h0
    rw [dg_zero]; omega
  have hMK1 : ∀ c, c < 2 ^ sm (ds n E t) n → (MKf mk2 c = true ↔ fa n (ad E) (ds n E t) c = true ∧ tot (ds n E t) n c ≤ 0) := fun c hcN => by
    have h1 := h39 c (N_le h15 hcN)
    have h2 : MKf mk2 c = (MKf mk c || decide (c = 0)) := h1
    rw [h2, hMK0 c (N_le h15 hcN), Bool.false_or, decide_eq_true_eq]
    constructor
    · rintro rfl; exact ⟨hfa0, Nat.le_of_eq (tot_zero _ _)⟩
    · rintro ⟨-, q⟩; exact hz c hcN (by omega)
  have fin : ∀ K fr to r0 mk row hm ln wc fw, K ≤ 58 → L0 n E t K fr to r0 row → (∀ c, c < 2 ^ sm (ds n E t) n → (MKf mk c = true ↔ fa n (ad E) (ds n E t) c = true ∧ tot (ds n E t) n c ≤ K)) → (∀ j, j < K → hm j = nI (ct (skf n E t j) (2 ^ sm (ds n E t) n))) → (∀ j, K ≤ j → j < 100 → hm j = 0) → (K = 0 → fr < to) →
      (1 ≤ K → ln = nI K ∧ wc = nI (ct (skf n E t (K - 1)) (2 ^ sm (ds n E t) n)) ∧ ∃ c0, fw = nI c0 ∧ c0 < 2 ^ sm (ds n E t) n ∧ skf n E t (K - 1) c0 = true ∧ ∀ c, c < 2 ^ sm (ds n E t) n → skf n E t (K - 1) c = true → c0 ≤ c) → fr = to → FR n E t (mF (nI t) 1 (nI n) (lN E) ln wc fw hm li sh nr mk) := by
    intro K fr to r0 mk row hm ln wc fw hK hL hM h1 h2 h3 h4 he
    have hK1 : 1 ≤ K := by
      rcases Nat.lt_or_ge 0 K with q | q
      · exact q
      · have := h3 (by omega); omega
    have hno : ∀ c, c < 2 ^ sm (ds n E t) n → fa n (ad E) (ds n E t) c = true → tot (ds n E t) n c ≤ K - 1 := by
      intro c hcN hf
      rcases Nat.lt_or_ge (tot (ds n E t) n c) K with q | q
      · omega
      · exfalso
        obtain ⟨d, d1, d2, d3⟩ := fa_desc h (tot (ds n E t) n c - K) c K (by omega) hcN hf
        obtain ⟨x, x1, x2, -⟩ := hL.2.2.2.2.2.2 d d1 d2 d3
        omega
    obtain ⟨q1, q2, c0, q3, q4, q5, q6⟩ := h4 hK1
    refine ⟨ln, wc, fw, hm, li, sh, nr, mk, K - 1, c0, rfl, hG, fun c hcN => ?_, hno, by rw [q1, show K - 1 + 1 = K by omega], q2, q3, q4, q5, q6, fun j hj => ?_⟩
    · apply bl_tr
      rw [hM c hcN]
      exact ⟨fun z => z.1, fun z => ⟨z, by have := hno c hcN z; omega⟩⟩
    · rcases Nat.lt_or_ge j K with z | z
      · exact h1 j z
      · rw [h2 j z hj, ct_none fun c hcN => ?_]; · rfl
        unfold skf
        cases hb : fa n (ad E) (ds n E t) c with
        | false => rfl
        | true => rw [decide_eq_false (by have := hno c hcN hb; omega)]; rfl
  obtain ⟨x, e1, P, row, rfl, hP⟩ : ∃ x, lw (G_44_22 a) 200000 (nI 0, nI 1, nI 0, wp W a (mF (nI t) 1 (nI n) (lN E) ln wc fw hm li sh nr mk2) (upd W.row 0 0)) = some x ∧ ∃ P row, x = wp W a P row ∧ FR n E t P := by
    refine lw_for (n := 58) (fun K st => ∃ fr to r0 mk row hm ln wc fw, st = (nI fr, nI to, nI K, wp W a (mF (nI t) 1 (nI n) (lN E) ln wc fw hm li sh nr mk) row) ∧ L0 n E t K fr to r0 row ∧ (∀ c, c < 2 ^ sm (ds n E t) n → (MKf mk c = true ↔ fa n (ad E) (ds n E t) c = true ∧ tot (ds n E t) n c ≤ K)) ∧ (∀ j, j < K → hm j = nI (ct (skf n E t j) (2 ^ sm (ds n E t) n))) ∧ (∀ j, K ≤ j → j < 100 → hm j = 0) ∧ (K = 0 → fr < to) ∧
      (1 ≤ K → ln = nI K ∧ wc = nI (ct (skf n E t (K - 1)) (2 ^ sm (ds n E t) n)) ∧ ∃ c0, fw = nI c0 ∧ c0 < 2 ^ sm (ds n E t) n ∧ skf n E t (K - 1) c0 = true ∧ ∀ c, c < 2 ^ sm (ds n E t) n → skf n E t (K - 1) c = true → c0 ≤ c)) ?_ ?_ ?_ (by omega)
    · rintro K st hK ⟨fr, to, r0, mk, row, hm, ln, wc, fw, rfl, hL, hM, h1, h2, h3, h4⟩
      have hto := hL.2.1
      have hfr := hL.1
      by_cases he : fr = to
      · right
        refine ⟨_, ?_, _, row, rfl, fin K fr to r0 mk row hm ln wc fw (by omega) hL hM h1 h2 h3 h4 he⟩
        simp only [G_44_22]
        rw [if_neg (show ¬ (99 : Int32) < nI K from nI_nlt (b := K) (a := 99) (by omega) (by decide)), if_pos (nI_le (by omega) (by omega))]
      · left
        obtain ⟨e, mk3, row3, e45, I⟩ := c45 ha (ln := nI (K + 1)) (wc := nI (to - fr)) (fw := nI (r0 fr)) (hm := upd hm K (nI (to - fr))) h hc ht hG hL hM
        obtain ⟨r, hL2, hM2⟩ := I.lvl h hc ht hL
        have hct : to - fr = ct (skf n E t K) (2 ^ sm (ds n E t) n) := by
          refine (ct_row (r := fun i => r0 (fr + i)) (fun i j hij hj => hL.2.2.2.2.1 (fr + i) (fr + j) (by omega) (by omega) (by omega)) (fun i hi => ?_) _ (fun i hi => (hL.2.2.1 (fr + i) (by omega)).2.1) (fun c hcN hs => ?_)).symm
          · unfold skf
            rw [(hL.2.2.1 (fr + i) (by omega)).2.2.1, hL.2.2.2.2.2.1 (fr + i) (by omega) (by omega), decide_eq_true rfl]; rfl
          · unfold skf at hs
            rw [Bool.and_eq_true, decide_eq_true_eq] at hs
            obtain ⟨x, x1, x2, x3⟩ := hL.2.2.2.2.2.2 c hcN hs.1 hs.2
            exact ⟨x - fr, by omega, by rw [show fr + (x - fr) = x by omega]; exact x3⟩
        refine ⟨(nI to, nI e, nI (K + 1), wp W a (mF (nI t) 1 (nI n) (lN E) (nI (K + 1)) (nI (to - fr)) (nI (r0 fr)) (upd hm K (nI (to - fr))) li sh nr mk3) row3), ?_, to, e, r, mk3, row3, _, _, _, _, rfl, hL2, hM2, fun j hj => ?_, fun j hj hj2 => ?_, fun q => by omega, fun _ => ⟨rfl, by rw [Nat.add_sub_cancel, hct], r0 fr, rfl, (hL.2.2.1 fr (by omega)).2.1, ?_, fun c hcN hs => ?_⟩⟩
        · have hrow : row fr = nI (r0 fr) := (hL.2.2.1 fr (by omega)).1
          simp only [G_44_22]
          rw [if_neg (show ¬ (99 : Int32) < nI K from nI_nlt (b := K) (a := 99) (by omega) (by decide)), if_neg (nI_ge (by omega) (by omega)), xfp ha, Option.bind_some, ixn (by omega) (by decide), Option.bind_some, pk_sub (by omega), mF_howMany, mFw_howMany, Option.bind_some, xsf, Option.bind_some, xfp ha, Option.bind_some, nI_1, mFw_leastNumber, Option.bind_some, xsf, Option.bind_some, xfp ha, Option.bind_some, mFw_worstCount, Option.bind_some, xsf, Option.bind_some, xfp ha, Option.bind_some, ixn (by omega) (by decide), Option.bind_some, wpr, hrow, mFw_firstWorst, Option.bind_some, xsf, Option.bind_some, xfp ha, Option.bind_some, e45, Option.bind_some]
        · by_cases q : j = K
          · subst q; rw [pk_us, hct]
          · rw [pk_un q]; exact h1 j (by omega)
        · rw [pk_un (by omega)]; exact h2 j (by omega) hj2
        · rw [Nat.add_sub_cancel]
          unfold skf
          rw [(hL.2.2.1 fr (by omega)).2.2.1, hL.2.2.2.2.2.1 fr (Nat.le_refl _) (by omega), decide_eq_true rfl]; rfl
        · rw [Nat.add_sub_cancel] at hs
          unfold skf at hs
          rw [Bool.and_eq_true, decide_eq_true_eq] at hs
          obtain ⟨x, x1, x2, x3⟩ := hL.2.2.2.2.2.2 c hcN hs.1 hs.2
          rw [← x3]
          by_cases q : x = fr
          · rw [q]; exact Nat.le_refl _
          · exact Nat.le_of_lt (hL.2.2.2.2.1 fr x (Nat.le_refl _) (by omega) x2)
    · rintro st ⟨fr, to, r0, mk, row, hm, ln, wc, fw, rfl, hL, hM, h1, h2, h3, h4⟩
      have hto := hL.2.1
      have hfr := hL.1
      have he : fr = to := by
        rcases Nat.lt_or_ge fr to with q | q
        · have q1 := hL.2.2.2.2.2.1 fr (Nat.le_refl _) q
          have q2 := tot_57 (c := r0 fr) h hc ht
          omega
        · omega
      refine ⟨_, ?_, _, row, rfl, fin 58 fr to r0 mk row hm ln wc fw (by omega) hL hM h1 h2 h3 h4 he⟩
      simp only [G_44_22]
      rw [if_neg (show ¬ (99 : Int32) < nI 58 by decide), if_pos (nI_le (by omega) (by omega))]
    · refine ⟨0, 1, fun _ => 0, mk2, upd W.row 0 0, hm, ln, wc, fw, rfl, ⟨by omega, by omega, fun x hx => ?_, fun x y hxy hy => by omega, fun x y hx hxy hy => by omega, fun x hx hx2 => tot_zero _ _, fun c hcN hf h0 => ⟨0, Nat.le_refl _, by omega, (hz c hcN h0).symm⟩⟩, hMK1, fun j hj => absurd hj (Nat.not_lt_zero _), fun j _ hj => hhm j hj, fun _ => by omega, fun q => by omega⟩
      obtain rfl : x = 0 := by omega
      exact ⟨pk_us, hN0, hfa0, Nat.le_of_eq (tot_zero _ _)⟩
  refine ⟨P, row, ?_, hP⟩
  unfold F_44 J_44_0_j92
  rw [ha, Option.bind_some, e38, Option.bind_some, show ix 0 2048 = some 0 from ixn (i := 0) (by decide) (by decide), Option.bind_some, wpr, Option.bind_some]
  rw [show (wp W a (mF (nI t) 1 (nI n) (lN E) ln wc fw hm li sh nr mk) W.row).w_row (upd W.row 0 0) = wp W a (mF (nI t) 1 (nI n) (lN E) ln wc fw hm li sh nr mk) (upd W.row 0 0) from rfl, Option.bind_some, xfp ha, Option.bind_some]
  have e39' : F_39 (mF (nI t) 1 (nI n) (lN E) ln wc fw hm li sh nr mk) 0 = some (mF (nI t) 1 (nI n) (lN E) ln wc fw hm li sh nr mk2) := e39
  have e1' : lw (G_44_22 a) 200000 (0, 1, 0, wp W a (mF (nI t) 1 (nI n) (lN E) ln wc fw hm li sh nr mk2) (upd W.row 0 0)) = some (wp W a P row) := e1
  rw [e39', Option.bind_some, xsf, Option.bind_some, e1']
  rfl
end FK
