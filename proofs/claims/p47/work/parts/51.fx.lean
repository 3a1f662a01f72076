/-! ===== FAILING PILES: clear, extend, collect ===== -/
def wp (W : Wd) (a : Nat) (P : FP) (r : Nat → Int32) : Wd := (W.sfp a P).w_row r
theorem xfp {W : Wd} {a : Nat} {P0 P : FP} {r : Nat → Int32} (h : W.fp a = some P0) : (wp W a P r).fp a = some P := by
  have h1 := sfp_fp (B := P) h a
  rw [if_pos rfl] at h1
  exact h1
theorem xsf {W : Wd} {a : Nat} {P Q : FP} {r : Nat → Int32} : (wp W a P r).sfp a Q = wp W a Q r := by
  have e := dset_dset W.dyn (a - 29) (.inr (.inl P)) (.inr (.inl Q)) rfl
  exact congrArg (fun l => (W.w_row r).w_dyn l) e
theorem wp0 {W : Wd} {a : Nat} {P : FP} (h : W.fp a = some P) : wp W a P W.row = W := by
  have h1 := at_fp h
  unfold Wd.at at h1
  split at h1
  · exact congrArg (fun l => (W.w_row W.row).w_dyn l) (dset_self h1)
  · cases h1
theorem wpb {W : Wd} {a : Nat} {P : FP} {r : Nat → Int32} : (wp W a P r).board = W.board := rfl
theorem wpr {W : Wd} {a : Nat} {P : FP} {r : Nat → Int32} : (wp W a P r).row = r := rfl
theorem psub1 {x : Nat} (h : 1 ≤ x) : nI x - 1 = nI (x - 1) := pk_sub h
theorem f261 (N : Nat) (B : Nat → Int32) (x : Int32) (hN : N < 200000) : ∃ f, F_261 N B x = some f ∧ ∀ i, f i = if i < N then x else B i := by
  obtain ⟨f, e1, hf⟩ : ∃ f, lw (G_261_5 N x (Int32.ofNat N)) 200000 (0, B) = some f ∧ ∀ i, f i = if i < N then x else B i := by
    refine lw_for (n := N) (fun i st => ∃ f, st = (nI i, f) ∧ ∀ j, f j = if j < i then x else B j) ?_ ?_ ⟨B, rfl, fun j => by rw [if_neg (Nat.not_lt_zero _)]⟩ hN
    · rintro i st hi ⟨f, rfl, h1⟩
      left
      refine ⟨(nI (i + 1), upd f i x), ?_, _, rfl, fun j => ?_⟩
      · simp only [G_261_5]
        rw [if_neg (show ¬ Int32.ofNat N ≤ nI i from nI_ge hi (by omega)), ixn hi (by omega), Option.bind_some, Option.bind_some, nI_1]
      · by_cases h2 : j = i
        · subst h2; rw [pk_us, if_pos (by omega)]
        · rw [pk_un h2, h1]
          by_cases h3 : j < i
          · rw [if_pos h3, if_pos (by omega)]
          · rw [if_neg h3, if_neg (by omega)]
    · rintro st ⟨f, rfl, h1⟩
      refine ⟨f, ?_, h1⟩
      simp only [G_261_5]
      rw [if_pos (show Int32.ofNat N ≤ nI N from nI_le (Nat.le_refl _) (by omega))]
  refine ⟨f, ?_, hf⟩
  unfold F_261
  rw [e1]
  rfl
/-- counting down -/
def dwn : Nat → Int32
  | 0 => -1
  | k + 1 => nI k
theorem dwn_0 : dwn 0 < 0 := by decide
theorem dwn_s {k : Nat} (hk : k < 2 ^ 31) : ¬ dwn (k + 1) < 0 := nI_pos hk
theorem dwn_m1 (k : Nat) : nI k + (-1) = dwn k := by
  cases k with
  | zero => rfl
  | succ k => exact pk_m1 k
theorem dwn_sub {n : Nat} (h : 1 ≤ n) : nI n - 1 = dwn n := by
  obtain ⟨k, rfl⟩ : ∃ k, n = k + 1 := ⟨n - 1, by omega⟩
  exact nI_pred k
/-- failing piles by their parts -/
def mF (t i v : Int32) (e : Int64) (ln wc fw : Int32) (hm li sh nr mk : Nat → Int32) : FP := (t, i, v, e, ln, wc, fw, hm, li, sh, nr, mk)
section MF
variable {t i v : Int32} {e : Int64} {ln wc fw : Int32} {hm li sh nr mk : Nat → Int32}
theorem mF_target : (mF t i v e ln wc fw hm li sh nr mk).target = t := rfl
theorem mF_isMade : (mF t i v e ln wc fw hm li sh nr mk).isMade = i := rfl
theorem mF_vertices : (mF t i v e ln wc fw hm li sh nr mk).vertices = v := rfl
theorem mF_edges : (mF t i v e ln wc fw hm li sh nr mk).edges = e := rfl
theorem mF_leastNumber : (mF t i v e ln wc fw hm li sh nr mk).leastNumber = ln := rfl
theorem mF_worstCount : (mF t i v e ln wc fw hm li sh nr mk).worstCount = wc := rfl
theorem mF_firstWorst : (mF t i v e ln wc fw hm li sh nr mk).firstWorst = fw := rfl
theorem mF_howMany : (mF t i v e ln wc fw hm li sh nr mk).howMany = hm := rfl
theorem mF_limits : (mF t i v e ln wc fw hm li sh nr mk).limits = li := rfl
theorem mF_shifts : (mF t i v e ln wc fw hm li sh nr mk).shifts = sh := rfl
theorem mF_near : (mF t i v e ln wc fw hm li sh nr mk).near = nr := rfl
theorem mF_marks : (mF t i v e ln wc fw hm li sh nr mk).marks = mk := rfl
theorem mFw_isMade {q : Int32} : (mF t i v e ln wc fw hm li sh nr mk).w_isMade q = mF t q v e ln wc fw hm li sh nr mk := rfl
theorem mFw_vertices {q : Int32} : (mF t i v e ln wc fw hm li sh nr mk).w_vertices q = mF t i q e ln wc fw hm li sh nr mk := rfl
theorem mFw_edges {q : Int64} : (mF t i v e ln wc fw hm li sh nr mk).w_edges q = mF t i v q ln wc fw hm li sh nr mk := rfl
theorem mFw_leastNumber {q : Int32} : (mF t i v e ln wc fw hm li sh nr mk).w_leastNumber q = mF t i v e q wc fw hm li sh nr mk := rfl
theorem mFw_worstCount {q : Int32} : (mF t i v e ln wc fw hm li sh nr mk).w_worstCount q = mF t i v e ln q fw hm li sh nr mk := rfl
theorem mFw_firstWorst {q : Int32} : (mF t i v e ln wc fw hm li sh nr mk).w_firstWorst q = mF t i v e ln wc q hm li sh nr mk := rfl
theorem mFw_howMany {q : Nat → Int32} : (mF t i v e ln wc fw hm li sh nr mk).w_howMany q = mF t i v e ln wc fw q li sh nr mk := rfl
theorem mFw_limits {q : Nat → Int32} : (mF t i v e ln wc fw hm li sh nr mk).w_limits q = mF t i v e ln wc fw hm q sh nr mk := rfl
theorem mFw_shifts {q : Nat → Int32} : (mF t i v e ln wc fw hm li sh nr mk).w_shifts q = mF t i v e ln wc fw hm li q nr mk := rfl
theorem mFw_near {q : Nat → Int32} : (mF t i v e ln wc fw hm li sh nr mk).w_near q = mF t i v e ln wc fw hm li sh q mk := rfl
theorem mFw_marks {q : Nat → Int32} : (mF t i v e ln wc fw hm li sh nr mk).w_marks q = mF t i v e ln wc fw hm li sh nr q := rfl
end MF
section FX
variable {n E t : Nat}
theorem c38 {W : Wd} {a : Nat} {P0 : FP} (ha : W.fp a = some P0) (hT : P0.target = nI t) (hB : CB n E W.board) (hD : CD n E W.board) (h : Gr n E) (ht : t < n) : ∃ ln wc fw hm li sh nr mk, F_38 W a = some (wp W a (mF (nI t) 1 (nI n) (lN E) ln wc fw hm li sh nr mk) W.row) ∧ (∀ v, v < n → li v = nI (2 ^ ds n E t v - 1) ∧ sh v = nI (shf (ds n E t) n v) ∧ nr v = nI (nb E v)) ∧ (∀ i, i < 1024 → mk i = 0) ∧ (∀ i, i < 100 → hm i = 0) := by
  have hn := h.2.1
  have h1n := h.1
  obtain ⟨t0, i0, v0, e0, ln, wc, fw, hm0, li0, sh0, nr0, mk0⟩ := P0
  have hT' : t0 = nI t := hT
  subst hT'
  obtain ⟨m, em, hm⟩ := f261 1024 mk0 0 (by omega)
  obtain ⟨q, eq, hq⟩ := f261 100 hm0 0 (by omega)
  have ha' : W.fp a = some (mF (nI t) i0 v0 e0 ln wc fw hm0 li0 sh0 nr0 mk0) := ha
  obtain ⟨x, e1, li, sh, nr, rfl, k7⟩ : ∃ x, lw (G_38_46 a) 200000 (0, dwn n, wp W a (mF (nI t) 1 (nI n) (lN E) ln wc fw q li0 sh0 nr0 m) W.row) = some x ∧ ∃ li sh nr, x = wp W a (mF (nI t) 1 (nI n) (lN E) ln wc fw q li sh nr m) W.row ∧ ∀ v, v < n → li v = nI (2 ^ ds n E t v - 1) ∧ sh v = nI (shf (ds n E t) n v) ∧ nr v = nI (nb E v) := by
    refine lw_for (n := n) (fun i st => ∃ li sh nr, st = (nI (sm (ds n E t) n - sm (ds n E t) (n - i)), dwn (n - i), wp W a (mF (nI t) 1 (nI n) (lN E) ln wc fw q li sh nr m) W.row) ∧ ∀ v, n - i ≤ v → v < n → li v = nI (2 ^ ds n E t v - 1) ∧ sh v = nI (shf (ds n E t) n v) ∧ nr v = nI (nb E v)) ?_ ?_ ?_ (by omega)
    · rintro i st hi ⟨li, sh, nr, rfl, k7⟩
      left
      obtain ⟨v, hv⟩ : ∃ v, n - i = v + 1 := ⟨n - i - 1, by omega⟩
      have hvn : v < n := by omega
      have hd := ds_le6 n E t v
      have hv2 : n - (i + 1) = v := by omega
      refine ⟨(nI (sm (ds n E t) n - sm (ds n E t) v), dwn v, wp W a (mF (nI t) 1 (nI n) (lN E) ln wc fw q (upd li v (nI (2 ^ ds n E t v - 1))) (upd sh v (nI (shf (ds n E t) n v))) (upd nr v (nI (nb E v))) m) W.row), ?_, _, _, _, by rw [hv2], fun u hu hu2 => ?_⟩
      · rw [hv]
        simp only [G_38_46]
        have hs1 : sm (ds n E t) (v + 1) = sm (ds n E t) v + ds n E t v := rfl
        have hs2 := sm_le_of_lt (f := ds n E t) (show v + 1 ≤ n by omega)
        have h1 : 1 ≤ 2 ^ ds n E t v := Nat.one_le_two_pow
        rw [if_neg (dwn_s (by omega)), xfp ha, Option.bind_some, mF_target]
        rw [show dwn (v + 1) = nI v from rfl]
        rw [wpb, c15 hD hn ht hvn, Option.bind_some, ixn (by omega) (by decide), Option.bind_some, Option.bind_some, sh1 hd, psub1 h1, mF_limits, mFw_limits, xsf, Option.bind_some, xfp ha, Option.bind_some, mF_shifts, mFw_shifts, Option.bind_some, xsf, Option.bind_some, xfp ha, Option.bind_some]
        rw [wpb, c9 hB h.E_lt (by omega), Option.bind_some, mF_near, mFw_near, Option.bind_some, xsf, Option.bind_some, nI_add, dwn_m1]
        rw [show sm (ds n E t) n - sm (ds n E t) (v + 1) + ds n E t v = sm (ds n E t) n - sm (ds n E t) v by omega]
        rfl
      · by_cases h4 : u = v
        · subst h4; rw [pk_us, pk_us, pk_us]; exact ⟨rfl, rfl, rfl⟩
        · rw [pk_un h4, pk_un h4, pk_un h4]; exact k7 u (by omega) hu2
    · rintro st ⟨li, sh, nr, rfl, k7⟩
      refine ⟨_, ?_, li, sh, nr, rfl, fun v hv => k7 v (by omega) hv⟩
      rw [Nat.sub_self]
      simp only [G_38_46]
      rw [if_pos dwn_0]
    · refine ⟨li0, sh0, nr0, ?_, fun v hv hv2 => by omega⟩
      rw [Nat.sub_zero, Nat.sub_self]
      rfl
  refine ⟨ln, wc, fw, q, li, sh, nr, m, ?_, k7, fun i hi => by rw [hm, if_pos hi], fun i hi => by rw [hq, if_pos hi]⟩
  unfold F_38
  have e0 : ∀ Q, W.sfp a Q = wp W a Q W.row := fun Q => rfl
  rw [ha', Option.bind_some, mFw_isMade, Option.bind_some, e0, Option.bind_some, xfp ha, Option.bind_some, wpb, hB.1, mFw_vertices, Option.bind_some, xsf, Option.bind_some, xfp ha, Option.bind_some, wpb, hB.2, mFw_edges, Option.bind_some, xsf, Option.bind_some, xfp ha, Option.bind_some, mF_marks, em, Option.bind_some, mFw_marks, Option.bind_some, xsf, Option.bind_some, xfp ha, Option.bind_some, mF_howMany, eq, Option.bind_some, mFw_howMany, Option.bind_some, xsf, Option.bind_some, xfp ha, Option.bind_some, mF_vertices, dwn_sub h1n, e1]
  rfl
end FX
