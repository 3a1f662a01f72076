/-! ===== THE MODEL'S HEIGHTS ===== -/
section TREE
variable {n E t : Nat} {par : Nat → Nat} {M : Md}
theorem m236 (hM : MR n E M.now) (hD : MDi n E M t) (hT : TR n E t par) (hn : n ≤ 6) (ht : t < n) {v : Nat} (hv : v < n) (hvt : ¬ v = t) : F_236 M (nI v) (nI t) = some (nI (par v)) := by
  obtain ⟨p1, p2, p3⟩ := hT.pa hv hvt
  have k3 := ds_le6 n E t v
  unfold F_236
  have key : lw (G_236_2 M (nI v) (nI t)) 200000 0 = some (nI (par v)) := by
    refine lw_seq (fun i => nI i) (n := par v) (fun i hi => ?_) ?_ (by omega)
    · have hin : i < n := by omega
      have k1 := ds_le6 n E t i
      simp only [G_236_2]
      rw [m175 hM (by omega) (by omega), Option.bind_some]
      by_cases q : ad E v i = true
      · have h2 : ¬ ds n E t i < ds n E t v := by
          rcases hT.2.2 v i hv hin q with ⟨a, b⟩ | ⟨a, b⟩
          · obtain ⟨_, _, c⟩ := hT.pa hin a
            rw [b] at c
            omega
          · omega
        rw [q, if_neg (by decide), m183 hD hn (by omega) hin, Option.bind_some, m183 hD hn (by omega) hv, Option.bind_some, if_neg (nI_nlt (by omega) (by omega))]
        simp only [J_236_2_j26]
        rw [nI_1]
      · rw [Bool.eq_false_iff.2 q, if_pos (by decide)]
        simp only [J_236_2_j26]
        rw [nI_1]
    · simp only [G_236_2]
      rw [m175 hM (by omega) (by omega), Option.bind_some, p2, if_neg (by decide), m183 hD hn (by omega) p1, Option.bind_some, m183 hD hn (by omega) hv, Option.bind_some, if_pos (nI_lt (by omega) (by omega))]
  rw [key, Option.bind_some]
/-- the children's heights -/
def hk (n E t : Nat) (par : Nat → Nat) (v : Nat) : Nat → Nat := fun i => mxl (fun c => if ¬ c = t ∧ par c = v then hh n E t par c + 1 else 0) 0 i
theorem hh_rec (hT : TR n E t par) {v : Nat} (hv : v < n) : hk n E t par v n = hh n E t par v := by
  refine Nat.le_antisymm (mxl_le (Nat.zero_le _) fun c hc => ?_) ?_
  · show (if ¬ c = t ∧ par c = v then hh n E t par c + 1 else 0) ≤ _
    split
    · rename_i q
      obtain ⟨y, hy, h1, h2⟩ := hh_ex hT hc
      obtain ⟨_, _, d⟩ := hT.pa hc q.1
      obtain ⟨_, b⟩ := hT.up hy h1
      rw [h2] at b
      have := hh_ge hT hy (i := hh n E t par c + 1) (by omega)
      rw [an, h2, q.2] at this
      exact this
    · exact Nat.zero_le _
  · obtain ⟨y, hy, h1, h2⟩ := hh_ex hT hv
    generalize hh n E t par v = i at *
    cases i with
    | zero => exact Nat.zero_le _
    | succ j =>
      obtain ⟨a, b⟩ := hT.up hy (j := j) (by omega)
      have hne : ¬ an par j y = t := fun q => by have := (hT.2.1 _ a).2 q; omega
      have g := hh_ge hT hy (i := j) (by omega)
      have m := mxl_mem (f := fun c => if ¬ c = t ∧ par c = v then hh n E t par c + 1 else 0) (c := 0) a
      have e : (if ¬ an par j y = t ∧ par (an par j y) = v then hh n E t par (an par j y) + 1 else 0) = hh n E t par (an par j y) + 1 := if_pos ⟨hne, h2⟩
      have m' : hh n E t par (an par j y) + 1 ≤ hk n E t par v n := by rw [← e]; exact m
      omega
theorem hh_le (hT : TR n E t par) {v : Nat} (hv : v < n) : hh n E t par v ≤ 6 := by
  obtain ⟨y, hy, h1, _⟩ := hh_ex hT hv
  have := ds_le6 n E t y
  omega
theorem md_heights (x : Md) (f : Nat → Int32) : ∃ y, x.w_heights f = y ∧ y.heights = f ∧ y.distances = x.distances ∧ MF x y := ⟨_, rfl, rfl, rfl, rfl, rfl, rfl, rfl, rfl, rfl, rfl, rfl, rfl⟩
theorem md_dist (x : Md) (f : Nat → Int32) : ∃ y, x.w_distances f = y ∧ y.distances = f ∧ MF x y := ⟨_, rfl, rfl, rfl, rfl, rfl, rfl, rfl, rfl, rfl, rfl, rfl⟩
theorem m235 (hM : MR n E M.now) (hT : TR n E t par) (hG : Gr n E) (hc : Cn n E) (ht : t < n) : ∃ M', F_235 M (nI t) = some M' ∧ MF M M' ∧ MDi n E M' t ∧ ∀ v, v < n → M'.heights v = nI (hh n E t par v) := by
  have hn := hG.2.1
  obtain ⟨f, e1, d1, _⟩ := m181 hM hG hc ht
  obtain ⟨X, hX, x1, x2⟩ := md_dist M f
  rw [hX] at e1
  have hD : MDi n E X t := fun v hv => by rw [x1]; exact d1 v hv
  have keep : ∀ {Y Z : Md}, MDi n E Y t → Z.distances = Y.distances → MDi n E Z t := fun h e v hv => by rw [e]; exact h v hv
  have clear : ∃ r, lw (G_235_7 (nI t)) 200000 (0, X) = some r ∧ (∀ v, v < n → r.heights v = nI 0) ∧ MDi n E r t ∧ MF X r := by
    refine lw_for (n := n) (fun i st => ∃ Y, st = (nI i, Y) ∧ (∀ v, v < i → Y.heights v = nI 0) ∧ MDi n E Y t ∧ MF X Y) ?_ ?_ ⟨X, rfl, fun v hv => absurd hv (Nat.not_lt_zero _), hD, MF.rf X⟩ (by omega)
    · rintro i st hi ⟨Y, rfl, a1, a2, a3⟩
      left
      obtain ⟨Z, hZ, z1', z2', z3'⟩ := md_heights Y (upd Y.heights i 0)
      refine ⟨(nI (i + 1), Z), ?_, Z, rfl, fun v hv => ?_, keep a2 z2', a3.tr z3'⟩
      · simp only [G_235_7]
        have hMR : MR n E Y.now := by rw [(x2.tr a3).now]; exact hM
        rw [show ix 0 93 = some 0 from rfl, Option.bind_some, hMR.1, if_neg (nI_ge hi (by omega)), ixn (by omega) (by decide), Option.bind_some, hZ, Option.bind_some, nI_1]
      · rw [z1']
        by_cases q : v = i
        · rw [q, pk_us]; exact nI_0.symm
        · rw [pk_un q]; exact a1 v (by omega)
    · rintro st ⟨Y, rfl, a1, a2, a3⟩
      have hMR : MR n E Y.now := by rw [(x2.tr a3).now]; exact hM
      refine ⟨Y, ?_, a1, a2, a3⟩
      simp only [G_235_7]
      rw [show ix 0 93 = some 0 from rfl, Option.bind_some, hMR.1, if_pos (nI_le (Nat.le_refl _) (by omega))]
  obtain ⟨Y0, e2, y1, y2, y3⟩ := clear
  have inner : ∀ {Y d}, MF X Y → MDi n E Y t → d + 1 ≤ 6 → (∀ v, v < n → Y.heights v = nI (if d + 1 ≤ ds n E t v then hh n E t par v else 0)) → ∃ r, lw (G_235_39 (nI t) (nI (d + 1))) 200000 (0, Y) = some r ∧ MF X r ∧ MDi n E r t ∧ ∀ v, v < n → r.heights v = nI (if d ≤ ds n E t v then hh n E t par v else 0) := by
    intro Y d hF hDY hd6 hh0
    refine lw_for (n := n) (fun i st => ∃ Z, st = (nI i, Z) ∧ MF X Z ∧ MDi n E Z t ∧ ∀ v, v < n → Z.heights v = nI (if d + 1 ≤ ds n E t v then hh n E t par v else if ds n E t v = d then hk n E t par v i else 0)) ?_ ?_ ⟨Y, rfl, hF, hDY, fun v hv => ?_⟩ (by omega)
    · rintro i st hi ⟨Z, rfl, a1, a2, a3⟩
      left
      have hMR : MR n E Z.now := by rw [(x2.tr a1).now]; exact hM
      have hdi := ds_le6 n E t i
      have stay : ∀ v, (¬ ds n E t i = d + 1) → v < n → ds n E t v = d → hk n E t par v (i + 1) = hk n E t par v i := fun v hne hv hvd => by
        unfold hk
        rw [mxl, if_neg, Nat.max_eq_left (Nat.zero_le _)]
        rintro ⟨q1, q2⟩
        obtain ⟨_, _, c⟩ := hT.pa hi q1
        rw [q2] at c
        omega
      by_cases q : ds n E t i = d + 1
      · have hit : ¬ i = t := fun h => by have := (hT.2.1 i hi).2 h; omega
        obtain ⟨p1, p2, p3⟩ := hT.pa hi hit
        have hhi := hh_le hT hi
        have hkb : hk n E t par (par i) i ≤ 7 := mxl_le (Nat.zero_le _) fun c hc => by
          show (if ¬ c = t ∧ par c = par i then hh n E t par c + 1 else 0) ≤ 7
          have := hh_le hT (v := c) (by omega)
          split <;> omega
        obtain ⟨Z2, hZ, z1', z2', z3'⟩ := md_heights Z (upd Z.heights (par i) (nI (max (hk n E t par (par i) i) (hh n E t par i + 1))))
        refine ⟨(nI (i + 1), Z2), ?_, Z2, rfl, a1.tr z3', keep a2 z2', fun v hv => ?_⟩
        · simp only [G_235_39]
          rw [show ix 0 93 = some 0 from rfl, Option.bind_some, hMR.1, if_neg (nI_ge hi (by omega)), m183 a2 hn (by omega) hi, Option.bind_some, q, if_neg (fun k => k rfl), m236 hMR a2 hT hn ht hi hit, Option.bind_some, ixn (by omega) (by decide), Option.bind_some, ixn (by omega) (by decide), Option.bind_some, a3 _ p1, a3 i hi, if_neg (by omega), if_pos (by omega), if_pos (by omega), nI_1, imx_n (by omega) (by omega), hZ, Option.bind_some]
          simp only [J_235_39_j92]
          rw [nI_1]
        · rw [z1']
          by_cases w : v = par i
          · subst w
            rw [pk_us, if_neg (by omega), if_pos (by omega)]
            congr 1
            unfold hk
            rw [mxl, if_pos ⟨hit, rfl⟩]
          · rw [pk_un w, a3 v hv]
            congr 1
            by_cases w1 : d + 1 ≤ ds n E t v
            · rw [if_pos w1, if_pos w1]
            · rw [if_neg w1, if_neg w1]
              by_cases w2 : ds n E t v = d
              · rw [if_pos w2, if_pos w2]
                unfold hk
                rw [mxl, if_neg (fun k => w k.2.symm), Nat.max_eq_left (Nat.zero_le _)]
              · rw [if_neg w2, if_neg w2]
      · refine ⟨(nI (i + 1), Z), ?_, Z, rfl, a1, a2, fun v hv => ?_⟩
        · simp only [G_235_39]
          rw [show ix 0 93 = some 0 from rfl, Option.bind_some, hMR.1, if_neg (nI_ge hi (by omega)), m183 a2 hn (by omega) hi, Option.bind_some, if_pos (by rw [nI_eq (by omega) (by omega)]; exact q)]
          simp only [J_235_39_j92]
          rw [nI_1]
        · rw [a3 v hv]
          congr 1
          by_cases w1 : d + 1 ≤ ds n E t v
          · rw [if_pos w1, if_pos w1]
          · rw [if_neg w1, if_neg w1]
            by_cases w2 : ds n E t v = d
            · rw [if_pos w2, if_pos w2, stay v q hv w2]
            · rw [if_neg w2, if_neg w2]
    · rintro st ⟨Z, rfl, a1, a2, a3⟩
      have hMR : MR n E Z.now := by rw [(x2.tr a1).now]; exact hM
      refine ⟨Z, ?_, a1, a2, fun v hv => ?_⟩
      · simp only [G_235_39]
        rw [show ix 0 93 = some 0 from rfl, Option.bind_some, hMR.1, if_pos (nI_le (Nat.le_refl _) (by omega))]
      · rw [a3 v hv, hh_rec hT hv]
        congr 1
        by_cases w1 : d + 1 ≤ ds n E t v
        · rw [if_pos w1, if_pos (by omega)]
        · rw [if_neg w1]
          by_cases w2 : ds n E t v = d
          · rw [if_pos w2, if_pos (by omega)]
          · rw [if_neg w2, if_neg (by omega)]
    · rw [hh0 v hv]
      congr 1
      by_cases w1 : d + 1 ≤ ds n E t v
      · rw [if_pos w1, if_pos w1]
      · rw [if_neg w1, if_neg w1]
        split <;> rfl
  have outer : ∃ r, lw (G_235_33 (nI t)) 200000 (6, Y0) = some r ∧ MF X r ∧ MDi n E r t ∧ ∀ v, v < n → r.heights v = nI (hh n E t par v) := by
    refine lw_for (n := 6) (fun i st => ∃ Z, st = (nI (6 - i), Z) ∧ MF X Z ∧ MDi n E Z t ∧ ∀ v, v < n → Z.heights v = nI (if 6 - i ≤ ds n E t v then hh n E t par v else 0)) ?_ ?_ ⟨Y0, rfl, y3, y2, fun v hv => by
      have := TR.d5 hG hc ht hv
      rw [y1 v hv, if_neg (by omega)]⟩ (by decide)
    · rintro i st hi ⟨Z, rfl, a1, a2, a3⟩
      left
      obtain ⟨d, hd⟩ : ∃ d, 6 - i = d + 1 := ⟨5 - i, by omega⟩
      rw [hd] at a3
      obtain ⟨r, b1, b2, b3, b4⟩ := inner a1 a2 (by omega) a3
      refine ⟨(nI (6 - (i + 1)), r), ?_, r, rfl, b2, b3, by rw [show 6 - (i + 1) = d by omega]; exact b4⟩
      simp only [G_235_33]
      rw [hd, if_neg (nI_nle (by omega) (by omega)), b1, Option.bind_some, pk_m1, show 6 - (i + 1) = d by omega]
    · rintro st ⟨Z, rfl, a1, a2, a3⟩
      refine ⟨Z, ?_, a1, a2, fun v hv => by rw [a3 v hv, if_pos (by omega)]⟩
      simp only [G_235_33]
      rw [Nat.sub_self, if_pos (by decide +kernel)]
  obtain ⟨r, e3, r1, r2, r3⟩ := outer
  refine ⟨r, ?_, x2.tr r1, r2, r3⟩
  unfold F_235
  rw [e1, Option.bind_some, e2, Option.bind_some, e3, Option.bind_some]
end TREE
