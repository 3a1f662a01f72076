/-! ===== THE BOUND OF THE STRATEGIES ===== -/
section BOUND
variable {n E sc : Nat} {tg : Nat → Nat} {wt : Nat → Nat → Nat} {pr : Nat → Nat → Option Nat} {M : Md}
/-- the least of `f` over all vertices but `t`, and `b` -/
def mnx (f : Nat → Nat) (t b : Nat) : Nat → Nat
  | 0 => b
  | v + 1 => if v = t then mnx f t b v else min (mnx f t b v) (f v)
/-- the sum of `f` over all vertices but `t` -/
def smx (f : Nat → Nat) (t : Nat) : Nat → Nat
  | 0 => 0
  | v + 1 => if v = t then smx f t v else smx f t v + f v
theorem mnx_le (f : Nat → Nat) (t b : Nat) : ∀ i, mnx f t b i ≤ b
  | 0 => Nat.le_refl _
  | v + 1 => by
    have := mnx_le f t b v
    rw [mnx]
    split <;> omega
theorem mnx_min {f : Nat → Nat} {t b c : Nat} (hb : b ≤ c) : ∀ i, mnx f t b i = min b (mnx f t c i)
  | 0 => (Nat.min_eq_left hb).symm
  | v + 1 => by
    have := mnx_min (f := f) (t := t) hb v
    rw [mnx, mnx]
    split <;> omega
theorem mnx_mem {f : Nat → Nat} {t b v : Nat} (hvt : ¬ v = t) : ∀ {i : Nat}, v < i → mnx f t b i ≤ f v
  | 0, h => absurd h (Nat.not_lt_zero _)
  | j + 1, h => by
    by_cases q : v = j
    · subst q
      rw [mnx, if_neg hvt]
      omega
    · have := mnx_mem (f := f) (t := t) (b := b) hvt (i := j) (by omega)
      rw [mnx]
      split <;> omega
theorem smx_le {f : Nat → Nat} {t c : Nat} : ∀ {i : Nat}, (∀ v, v < i → f v ≤ c) → smx f t i ≤ i * c
  | 0, _ => Nat.zero_le _
  | v + 1, h => by
    have a := smx_le (f := f) (t := t) (i := v) (fun w hw => h w (by omega))
    have b := h v (by omega)
    rw [smx, Nat.add_mul, Nat.one_mul]
    split <;> omega
theorem vsm_le (hO : SO n sc tg wt pr) {t v : Nat} (hv : v < n) : vsm n E sc tg wt pr t v ≤ 384 := by
  have : vsm n E sc tg wt pr t v ≤ sc * 64 := sm_le fun k hk => by
    show (if vld n E tg wt pr t k = true then wt k v else 0) ≤ 64
    split
    · exact ((hO.2 k hk).2 v hv).1
    · exact Nat.zero_le _
  have := hO.1
  omega
/-- 384 and 999 come to the same: a sum is never above 384 -/
theorem mnx_same (hO : SO n sc tg wt pr) {t : Nat} (h2 : ¬ n = 1) (h1 : 1 ≤ n) (ht : t < n) : mnx (vsm n E sc tg wt pr t) t 384 n = mnx (vsm n E sc tg wt pr t) t 999 n := by
  obtain ⟨v, hv, hvt⟩ : ∃ v, v < n ∧ ¬ v = t := by
    by_cases q : t = 0
    · exact ⟨1, by omega, by omega⟩
    · exact ⟨0, by omega, by omega⟩
  have a := mnx_mem (f := vsm n E sc tg wt pr t) (b := 999) hvt hv
  have b := vsm_le (E := E) (t := t) hO hv
  rw [mnx_min (show 384 ≤ 999 by decide)]
  omega
theorem c119l {W : Wd} (hB : CB n E W.board) (hS : CS n sc tg wt pr W.board) (hO : SO n sc tg wt pr) (hn : n ≤ 6) {t b : Nat} (ht : t < n) (hb : b ≤ 999) :
    lw (G_119_39 W (nI t) (nI (vms n E tg wt pr t sc))) 200000 (nI b, 0, 0) = some (nI (mnx (vsm n E sc tg wt pr t) t b n), nI (smx (vsm n E sc tg wt pr t) t n)) := by
  refine lw_seq (fun i => (nI (mnx (vsm n E sc tg wt pr t) t b i), nI (smx (vsm n E sc tg wt pr t) t i), nI i)) (n := n) (fun i hi => ?_) ?_ (by omega)
  · have k1 := mnx_le (vsm n E sc tg wt pr t) t b i
    have k2 := vsm_le (E := E) (t := t) hO hi
    simp only [G_119_39]
    rw [hB.1, if_neg (nI_ge hi (by omega))]
    by_cases q : i = t
    · rw [if_pos (by rw [q])]
      simp only [J_119_39_j83]
      rw [mnx, smx, if_pos q, if_pos q, nI_1]
    · rw [if_neg (by rw [nI_eq (by omega) (by omega)]; exact q), c35 hS hO hn hi, Option.bind_some]
      simp only [J_119_39_j83]
      rw [mnx, smx, if_neg q, if_neg q, nI_1, nI_add, imn_n (by omega) (by omega)]
  · simp only [G_119_39]
    rw [hB.1, if_pos (nI_le (Nat.le_refl _) (by omega))]
theorem m247l (hM : MR n E M.now) (hS : MS n sc tg wt pr M.now) (hO : SO n sc tg wt pr) (hG : Gr n E) {t b : Nat} (ht : t < n) (hb : b ≤ 999) :
    lw (G_247_43 M (nI t)) 200000 (nI b, 0, 0) = some (nI (mnx (vsm n E sc tg wt pr t) t b n), nI (smx (vsm n E sc tg wt pr t) t n)) := by
  have hn := hG.2.1
  refine lw_seq (fun i => (nI (mnx (vsm n E sc tg wt pr t) t b i), nI (smx (vsm n E sc tg wt pr t) t i), nI i)) (n := n) (fun i hi => ?_) ?_ (by omega)
  · have k1 := mnx_le (vsm n E sc tg wt pr t) t b i
    have k2 := vsm_le (E := E) (t := t) hO hi
    simp only [G_247_43]
    rw [show ix 0 93 = some 0 from rfl, Option.bind_some, hM.1, if_neg (nI_ge hi (by omega))]
    by_cases q : i = t
    · rw [if_pos (by rw [q])]
      simp only [J_247_43_j82]
      rw [mnx, smx, if_pos q, if_pos q, nI_1]
    · rw [if_neg (by rw [nI_eq (by omega) (by omega)]; exact q), m246 hM hS hO hG ht hi, Option.bind_some, Option.bind_some]
      simp only [J_247_43_j82]
      rw [mnx, smx, if_neg q, if_neg q, nI_1, nI_add, imn_n (by omega) (by omega)]
  · simp only [G_247_43]
    rw [show ix 0 93 = some 0 from rfl, Option.bind_some, hM.1, if_pos (nI_le (Nat.le_refl _) (by omega))]
end BOUND
