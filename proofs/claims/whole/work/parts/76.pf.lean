/-! ===== THE SETUP TEXT: the model's words, numbers ===== -/
section PARSE
variable {b : Nat → Nat} {len : Nat} {T : Tx} {M : Md}
theorem m146g (h : M.wrong = -1) : F_146 M = some 1 := by
  unfold F_146 J_146_0_j12
  rw [h, if_neg (by decide), if_pos (by decide)]
theorem m146n {e : Nat} (h : M.wrong = nI e) (he : e < 2 ^ 31) : F_146 M = some 0 := by
  unfold F_146 J_146_0_j12
  rw [h, if_pos (nI_pos' he), if_pos (by decide)]
theorem m145g {x : Nat} (h : M.wrong = -1) (hf : M.from_ = nI x) : F_145 M = some (M.w_wrong (nI x)) := by
  unfold F_145 J_145_0_j19
  rw [h, if_neg (by decide), hf]
  rfl
theorem m145n {e : Nat} (h : M.wrong = nI e) (he : e < 2 ^ 31) : F_145 M = some (M.w_wrong (nI e)) := by
  unfold F_145 J_145_0_j19
  rw [h, if_pos (nI_pos' he)]
  rfl
theorem tK_le (b : Nat → Nat) (len p : Nat) : tK b len p ≤ 3 := by unfold tK; split <;> (try split) <;> (try split) <;> omega
theorem m147 (hM : MX b len M) {p k : Nat} (hk : k < 4) (hp : p ≤ len) (hC : MK2 b len p M) (hw : M.wrong = -1) : F_147 M k = some (bI (wd k b len p)) := by
  have h4 := hM.2.1
  have k1 := tE_le (b := b) hp
  have kl := am_tx_len k hk
  have hk3 := tK_le b len p
  have no : wd k b len p = false → J_147_0_j35 k M = some (bI (wd k b len p)) := fun hf => by
    rw [hf]
    unfold J_147_0_j35 J_147_0_j36
    rw [show lw (G_147_39 k M) 200000 (0, 0) = some 0 from lw_end (k := 199999) (by simp only [G_147_39]; rw [if_pos trivial])]
    rfl
  unfold F_147
  rw [m146g hw, Option.bind_some, if_neg (by decide), hC.2.2.1, hC.1, hC.2.1, pk_sub k1.1]
  by_cases q : tK b len p = 1
  · rw [if_neg (by rw [q]; exact fun z => z rfl)]
    by_cases q2 : tE b len p - tS b len p = (am_tx k).length
    · rw [if_neg (by rw [q2]; exact fun z => z rfl)]
      have main : ∃ r, lw (G_147_39 k M) 200000 (1, 0) = some r ∧ r = bI (al (fun i => decide (nI (b (tS b len p + i)) = (am_tx k).getD i 0)) (am_tx k).length) := by
        refine lw_for (n := (am_tx k).length) (fun i st => st = (bI (al (fun i => decide (nI (b (tS b len p + i)) = (am_tx k).getD i 0)) i), nI i)) ?_ ?_ rfl (by omega)
        · rintro i st hi rfl
          cases hm : al (fun i => decide (nI (b (tS b len p + i)) = (am_tx k).getD i 0)) i with
          | false =>
            right
            refine ⟨0, ?_, ?_⟩
            · simp only [G_147_39]
              rw [if_pos (by decide)]
              rfl
            · cases ha : al (fun i => decide (nI (b (tS b len p + i)) = (am_tx k).getD i 0)) (am_tx k).length with
              | false => rfl
              | true =>
                have : al (fun i => decide (nI (b (tS b len p + i)) = (am_tx k).getD i 0)) i = true := al_iff.2 fun j hj => al_iff.1 ha j (by omega)
                rw [hm] at this
                cases this
          | true =>
            left
            have hstep : al (fun i => decide (nI (b (tS b len p + i)) = (am_tx k).getD i 0)) (i + 1) = decide (nI (b (tS b len p + i)) = (am_tx k).getD i 0) := by rw [al, hm, Bool.true_and]
            refine ⟨_, ?_, rfl⟩
            rw [hstep]
            simp only [G_147_39]
            rw [if_neg (by decide), show Int32.ofNat (am_tx k).length = nI (am_tx k).length from rfl, if_neg (nI_ge hi (by omega)), hC.1, nI_add, ixn (by omega) (by decide), Option.bind_some, ixn hi (by omega), Option.bind_some, (hM.2.2 _ (by omega)).1]
            simp only [J_147_39_j75]
            rw [nI_1]
            by_cases w : nI (b (tS b len p + i)) = (am_tx k).getD i 0
            · rw [if_neg (fun z => z w), decide_eq_true w]; rfl
            · rw [if_pos w, decide_eq_false w]; rfl
        · rintro st rfl
          refine ⟨_, ?_, rfl⟩
          simp only [G_147_39]
          rw [show Int32.ofNat (am_tx k).length = nI (am_tx k).length from rfl, if_pos (nI_le (Nat.le_refl _) (by omega))]
          split <;> rfl
      obtain ⟨r, hr, rfl⟩ := main
      unfold J_147_0_j36 J_147_0_j82
      rw [hr, Option.bind_some]
      unfold wd
      rw [decide_eq_true q, decide_eq_true q2, Bool.true_and, Bool.true_and]
      exact bI_ok
    · rw [if_pos (by show ¬ nI _ = nI _; rw [nI_eq (by omega) (by omega)]; exact q2)]
      exact no (by unfold wd; rw [decide_eq_false q2, Bool.and_false, Bool.false_and])
  · rw [if_pos (by rw [z1, nI_eq (by omega) (by omega)]; exact q)]
    exact no (by unfold wd; rw [decide_eq_false q, Bool.false_and, Bool.false_and])
/-- the token is a number from `lo` to `hi` -/
def ism (lo hi : Nat) (b : Nat → Nat) (len p : Nat) : Bool := decide (tK b len p = 2 ∧ tE b len p - tS b len p ≤ 3 ∧ lo ≤ tN b len p ∧ tN b len p ≤ hi)
theorem tN_le {p : Nat} (hp : p ≤ len) (h2 : tK b len p = 2) (h3 : tE b len p - tS b len p ≤ 3) : tN b len p ≤ 10000 := by
  have k2 := tA_le (b := b) hp
  have k3 := tD_le (b := b) hp
  have he : tE b len p = max (tA b len p) (tD b len p) := by unfold tE; rw [if_neg (by omega)]
  have hna : ¬ tS b len p < tA b len p := fun z => by
    unfold tK at h2
    by_cases q : tS b len p < len
    · rw [if_pos q, if_pos z] at h2; omega
    · omega
  have he2 : tE b len p = tD b len p := by omega
  unfold tN
  rw [← mu_nu _ _ _ (by
    have : 10 ^ (tE b len p - tS b len p) ≤ 10 ^ 3 := Nat.pow_le_pow_right (by decide) h3
    omega) (fun j h1 h4 => run_in (b := b) (lo := 48) (hi := 57) _ _ j h1 (show j < tD b len p by omega))]
  exact mu_le _ _ _ (by decide)
theorem c69 {p lo hi : Nat} (hp : p ≤ len) (hC : CT b len p T) (hlo : lo < 2 ^ 31) (hhi : hi < 2 ^ 31) : F_69 T (nI lo) (nI hi) = some (bI (ism lo hi b len p)) := by
  have hk3 := tK_le b len p
  unfold F_69 ism
  rw [hC.2.2.1]
  by_cases q : tK b len p = 2
  · rw [if_neg (by rw [q]; exact fun z => z rfl), hC.2.2.2.1 q]
    by_cases q2 : tE b len p - tS b len p ≤ 3
    · have hn := tN_le hp q q2
      rw [if_pos q2]
      by_cases q3 : lo ≤ tN b len p
      · rw [if_neg (nI_nlt q3 (by omega))]
        by_cases q4 : tN b len p ≤ hi
        · rw [if_neg (nI_nlt q4 hhi), decide_eq_true ⟨q, q2, q3, q4⟩]
          rfl
        · rw [if_pos (nI_lt (by omega) (by omega)), decide_eq_false (fun z => q4 z.2.2.2)]
          rfl
      · rw [if_pos (nI_lt (by omega) hlo), decide_eq_false (fun z => q3 z.2.2.1)]
        rfl
    · have : (-1 : Int32) < nI lo := by
        rw [Int32.lt_iff_toInt_lt, nI_toInt hlo]
        have : (-1 : Int32).toInt = -1 := by decide
        omega
      rw [if_neg q2, if_pos this, decide_eq_false (fun z => q2 z.2.1)]
      rfl
  · rw [if_pos (by rw [z2, nI_eq (by omega) (by omega)]; exact q), decide_eq_false (fun z => q z.1)]
    rfl
theorem m148 {p lo hi : Nat} (hp : p ≤ len) (h4 : len ≤ 400) (hC : MK2 b len p M) (hw : M.wrong = -1) (hlo : lo < 2 ^ 31) (hhi : hi < 2 ^ 31) : F_148 M (nI lo) (nI hi) = some (bI (ism lo hi b len p)) := by
  have hk3 := tK_le b len p
  have k1 := tE_le (b := b) hp
  unfold F_148 ism
  rw [m146g hw, Option.bind_some, if_neg (by decide), hC.2.2.1, hC.1, hC.2.1, pk_sub k1.1]
  by_cases q : tK b len p = 2
  · rw [if_neg (by rw [q]; exact fun z => z rfl)]
    by_cases q2 : tE b len p - tS b len p ≤ 3
    · obtain ⟨a, a1, a2, a3⟩ := hC.2.2.2 q
      obtain rfl := a3 q2
      rw [z3, if_neg (nI_nlt q2 (by omega)), a1, m134, Option.bind_some]
      by_cases q3 : lo ≤ tN b len p ∧ tN b len p ≤ hi
      · rw [decide_eq_true ⟨nI_le q3.1 (by omega), nI_le q3.2 hhi⟩, decide_eq_true ⟨q, q2, q3.1, q3.2⟩]
        rfl
      · have : ¬ (nI lo ≤ nI (tN b len p) ∧ nI (tN b len p) ≤ nI hi) := fun z => by
          rcases Nat.lt_or_ge (tN b len p) lo with w | w
          · exact nI_ge w hlo z.1
          · rcases Nat.lt_or_ge hi (tN b len p) with y | y
            · exact nI_ge y (by omega) z.2
            · exact q3 ⟨w, y⟩
        rw [decide_eq_false this, decide_eq_false (fun z => q3 z.2.2)]
        rfl
    · rw [z3, if_pos (nI_lt (by omega) (by omega)), decide_eq_false (fun z => q2 z.2.1)]
      rfl
  · rw [if_pos (by rw [z2, nI_eq (by omega) (by omega)]; exact q), decide_eq_false (fun z => q z.1)]
    rfl
theorem m148n {e : Nat} {x y : Int32} (h : M.wrong = nI e) (he : e < 2 ^ 31) : F_148 M x y = some 0 := by
  unfold F_148
  rw [m146n h he, Option.bind_some, if_pos rfl]
  rfl
end PARSE
