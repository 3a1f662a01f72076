/-! ===== THE SETUP TEXT: the model's token ===== -/
def mu (b : Nat → Nat) : Nat → Nat → Nat → Nat
  | 0, _, a => a
  | f + 1, i, a => mu b f (i + 1) (min 10000 (10 * a + b i - 48))
theorem mu_le {b : Nat → Nat} : ∀ f i a, a ≤ 10000 → mu b f i a ≤ 10000
  | 0, _, _, h => h
  | f + 1, i, a, h => by rw [mu]; exact mu_le f (i + 1) _ (by omega)
theorem mu_nu {b : Nat → Nat} : ∀ f i a, (a + 1) * 10 ^ f ≤ 10000 → (∀ j, i ≤ j → j < i + f → 48 ≤ b j ∧ b j ≤ 57) → mu b f i a = nu b f i a
  | 0, _, _, _, _ => rfl
  | f + 1, i, a, h, hd => by
    obtain ⟨h1, h2⟩ := hd i (Nat.le_refl _) (by omega)
    have hp : 0 < 10 ^ f := Nat.pow_pos (by decide)
    have e : (a + 1) * 10 ^ (f + 1) = (10 * a + 10) * 10 ^ f := by rw [Nat.pow_succ, Nat.mul_comm (10 ^ f) 10, ← Nat.mul_assoc]; congr 1; omega
    have h3 : 10 * a + 10 ≤ (10 * a + 10) * 10 ^ f := Nat.le_mul_of_pos_right _ hp
    have h4 : (10 * a + b i - 48 + 1) * 10 ^ f ≤ (10 * a + 10) * 10 ^ f := Nat.mul_le_mul_right _ (by omega)
    rw [mu, nu, show min 10000 (10 * a + b i - 48) = 10 * a + b i - 48 by omega]
    exact mu_nu f (i + 1) _ (by omega) (fun j j1 j2 => hd j (by omega) (by omega))
section PARSE
variable {b : Nat → Nat} {len : Nat} {M : Md}
/-- all but where it stands -/
def MU (M M' : Md) : Prop := MF M M' ∧ M'.read = M.read ∧ M'.wrong = M.wrong ∧ M'.from_ = M.from_ ∧ M'.kind = M.kind
theorem MU.rf (M : Md) : MU M M := ⟨MF.rf M, rfl, rfl, rfl, rfl⟩
theorem MU.tr {A B C : Md} (h : MU A B) (k : MU B C) : MU A C := ⟨h.1.tr k.1, k.2.1.trans h.2.1, k.2.2.1.trans h.2.2.1, k.2.2.2.1.trans h.2.2.2.1, k.2.2.2.2.trans h.2.2.2.2⟩
theorem MX.of {M M' : Md} (h : MX b len M) (k : MF M M') : MX b len M' := ⟨k.2.2.1.trans h.1, h.2.1, fun i hi => by rw [k.2.1]; exact h.2.2 i hi⟩
theorem md_at (M : Md) (x : Int32) : ∃ y, M.w_at x = y ∧ y.at = x ∧ y.number = M.number ∧ MU M y := ⟨_, rfl, rfl, rfl, ⟨rfl, rfl, rfl, rfl, rfl, rfl, rfl, rfl, rfl⟩, rfl, rfl, rfl, rfl⟩
theorem md_num (M : Md) (x : Int32) : ∃ y, M.w_number x = y ∧ y.at = M.at ∧ y.number = x ∧ MU M y := ⟨_, rfl, rfl, rfl, ⟨rfl, rfl, rfl, rfl, rfl, rfl, rfl, rfl, rfl⟩, rfl, rfl, rfl, rfl⟩
theorem md_from (M : Md) (x : Int32) : ∃ y, M.w_from_ x = y ∧ y.at = M.at ∧ y.from_ = x ∧ y.kind = M.kind ∧ y.read = M.read ∧ y.wrong = M.wrong ∧ MF M y := ⟨_, rfl, rfl, rfl, rfl, rfl, rfl, rfl, rfl, rfl, rfl, rfl, rfl, rfl, rfl, rfl⟩
theorem md_kind (M : Md) (x : Int32) : ∃ y, M.w_kind x = y ∧ y.at = M.at ∧ y.from_ = M.from_ ∧ y.kind = x ∧ y.read = M.read ∧ y.wrong = M.wrong ∧ MF M y := ⟨_, rfl, rfl, rfl, rfl, rfl, rfl, rfl, rfl, rfl, rfl, rfl, rfl, rfl, rfl, rfl⟩
theorem pk32 (hM : MX b len M) {i : Nat} (hi : i < len) : (nI (b i) = 32) ↔ (32 ≤ b i ∧ b i ≤ 32) := by
  have := (hM.2.2 i hi).2
  rw [z32, nI_eq (by omega) (by omega)]
  omega
theorem m144s : ∀ (f i k : Nat) (M : Md), MX b len M → i + f = len → f < k → M.at = nI i → ∃ M', lw (G_144_0) k M = some M' ∧ M'.at = nI (run b 32 32 f i) ∧ MU M M'
  | 0, i, k, M, hM, h, hk, ha => by
    obtain ⟨m, rfl⟩ : ∃ m, k = m + 1 := ⟨k - 1, by omega⟩
    have h4 := hM.2.1
    refine ⟨M, lw_end ?_, ha, MU.rf M⟩
    simp only [G_144_0]
    rw [ha, m141 hM (by omega), Option.bind_some, if_neg (show ¬ i < len by omega), if_pos (show ¬ (-1 : Int32) = 32 by decide)]
  | f + 1, i, k, M, hM, h, hk, ha => by
    obtain ⟨m, rfl⟩ : ∃ m, k = m + 1 := ⟨k - 1, by omega⟩
    have h4 := hM.2.1
    have hil : i < len := by omega
    have hp := pk32 hM hil
    by_cases q : 32 ≤ b i ∧ b i ≤ 32
    · obtain ⟨y, hy, y1, y2, y3⟩ := md_at M (nI (i + 1))
      obtain ⟨M', e, e1, e2⟩ := m144s f (i + 1) m y (hM.of y3.1) (by omega) (by omega) y1
      refine ⟨M', ?_, by rw [run, if_pos q]; exact e1, y3.tr e2⟩
      rw [← e]
      refine lw_one ?_
      simp only [G_144_0]
      rw [ha, m141 hM (by omega), Option.bind_some, if_pos hil, if_neg (fun z => z (hp.2 q)), nI_1, hy]
      rfl
    · refine ⟨M, lw_end ?_, by rw [run, if_neg q]; exact ha, MU.rf M⟩
      simp only [G_144_0]
      rw [ha, m141 hM (by omega), Option.bind_some, if_pos hil, if_pos (fun z => q (hp.1 z))]
theorem m144a : ∀ (f i k : Nat) (M : Md), MX b len M → M.kind = 1 → i + f = len → f < k → M.at = nI i → ∃ M', lw (G_144_101) k M = some M' ∧ M'.at = nI (run b 97 122 f i) ∧ MU M M'
  | 0, i, k, M, hM, hkd, h, hk, ha => by
    obtain ⟨m, rfl⟩ : ∃ m, k = m + 1 := ⟨k - 1, by omega⟩
    have h4 := hM.2.1
    refine ⟨M, lw_end ?_, ha, MU.rf M⟩
    simp only [G_144_101]
    rw [hkd, if_neg (fun z => z rfl), ha, m141 hM (by omega), Option.bind_some, if_neg (by omega), m142n, Option.bind_some, if_pos rfl]
  | f + 1, i, k, M, hM, hkd, h, hk, ha => by
    obtain ⟨m, rfl⟩ : ∃ m, k = m + 1 := ⟨k - 1, by omega⟩
    have h4 := hM.2.1
    have hil : i < len := by omega
    have hb := (hM.2.2 i hil).2
    by_cases q : 97 ≤ b i ∧ b i ≤ 122
    · obtain ⟨y, hy, y1, y2, y3⟩ := md_at M (nI (i + 1))
      obtain ⟨M', e, e1, e2⟩ := m144a f (i + 1) m y (hM.of y3.1) (y3.2.2.2.2.trans hkd) (by omega) (by omega) y1
      refine ⟨M', ?_, by rw [run, if_pos q]; exact e1, y3.tr e2⟩
      rw [← e]
      refine lw_one ?_
      simp only [G_144_101]
      rw [hkd, if_neg (fun z => z rfl), ha, m141 hM (by omega), Option.bind_some, if_pos hil, m142 hb, Option.bind_some, decide_eq_true q, if_neg (by decide), nI_1, hy]
      rfl
    · refine ⟨M, lw_end ?_, by rw [run, if_neg q]; exact ha, MU.rf M⟩
      simp only [G_144_101]
      rw [hkd, if_neg (fun z => z rfl), ha, m141 hM (by omega), Option.bind_some, if_pos hil, m142 hb, Option.bind_some, decide_eq_false q, if_pos (by decide)]
theorem m144d : ∀ (f i k a : Nat) (M : Md), MX b len M → M.kind = 2 → i + f = len → f < k → M.at = nI i → M.number = nI a → a ≤ 10000 → ∃ M', lw (G_144_136) k M = some M' ∧ M'.at = nI (run b 48 57 f i) ∧ M'.number = nI (mu b (run b 48 57 f i - i) i a) ∧ MU M M'
  | 0, i, k, a, M, hM, hkd, h, hk, ha, hn, hle => by
    obtain ⟨m, rfl⟩ : ∃ m, k = m + 1 := ⟨k - 1, by omega⟩
    have h4 := hM.2.1
    refine ⟨M, lw_end ?_, ha, by rw [run, Nat.sub_self]; exact hn, MU.rf M⟩
    simp only [G_144_136]
    rw [hkd, if_neg (fun z => z rfl), ha, m141 hM (by omega), Option.bind_some, if_neg (by omega), m143n, Option.bind_some, if_pos rfl]
  | f + 1, i, k, a, M, hM, hkd, h, hk, ha, hn, hle => by
    obtain ⟨m, rfl⟩ : ∃ m, k = m + 1 := ⟨k - 1, by omega⟩
    have h4 := hM.2.1
    have hil : i < len := by omega
    have hb := (hM.2.2 i hil).2
    by_cases q : 48 ≤ b i ∧ b i ≤ 57
    · obtain ⟨x, hx, x1, x2, x3⟩ := md_num M (nI (min 10000 (10 * a + b i - 48)))
      obtain ⟨y, hy, y1, y2, y3⟩ := md_at x (nI (i + 1))
      obtain ⟨M', e, e1, e2, e3⟩ := m144d f (i + 1) m (min 10000 (10 * a + b i - 48)) y (hM.of (x3.tr y3).1) ((x3.tr y3).2.2.2.2.trans hkd) (by omega) (by omega) y1 (y2.trans x2) (by omega)
      have hr := run_le b 48 57 f (i + 1)
      refine ⟨M', ?_, by rw [run, if_pos q]; exact e1, ?_, (x3.tr y3).tr e3⟩
      · rw [← e]
        refine lw_one ?_
        simp only [G_144_136]
        rw [hkd, if_neg (fun z => z rfl), ha, m141 hM (by omega), Option.bind_some, if_pos hil, m143 hb, Option.bind_some, decide_eq_true q, if_neg (by decide), Option.bind_some, hn, z10, pk_mul, nI_add, show (48 : Int32) = nI 48 from rfl, pk_sub (by omega), show (10000 : Int32) = nI 10000 from rfl, imn_n (by omega) (by omega), hx, Option.bind_some, x1, ha, nI_1, hy]
        rfl
      · rw [e2, run, if_pos q, show run b 48 57 f (i + 1) - i = (run b 48 57 f (i + 1) - (i + 1)) + 1 by omega, mu]
    · refine ⟨M, lw_end ?_, by rw [run, if_neg q]; exact ha, by rw [run, if_neg q, Nat.sub_self]; exact hn, MU.rf M⟩
      simp only [G_144_136]
      rw [hkd, if_neg (fun z => z rfl), ha, m141 hM (by omega), Option.bind_some, if_pos hil, m143 hb, Option.bind_some, decide_eq_false q, if_pos (by decide)]
end PARSE
