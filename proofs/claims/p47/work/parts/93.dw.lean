/-! ===== THE DRAWN YARD: edges and piles ===== -/
theorem z18 : (18 : Int32) = nI 18 := rfl
section DRAWN
variable {L : Nat} {xs : Nat → Int32} {w : Nat → Nat} {W : Wd} {a n x : Nat}
theorem te_ae {E u v : Nat} (h : ad E u v = false) : te E u v = ae E u v := by
  unfold te
  rw [if_neg (by rw [h]; decide)]
/-- the yard, some of its fields replaced, of the same yard's place alone -/
def YG (w : Nat → Nat) (a : Nat) (W V : Wd) (Q : Ps) : Prop := Yd w V.cl a Q ∧ Fy w a W V
theorem yMany' {V : Wd} {Q : Ps} (h : Yd w V.cl a Q) : V.gI a 7 0 = some (nI Q.n) ∧ V.rc a 7 = some () := by
  obtain ⟨_, _, _, _, _, _, h1, _⟩ := h
  exact ⟨yMany h1, rc_ h1⟩
theorem r309_24 (hL : L ≤ 260) (hx : x < 2 ^ 31) (h1 : 1 ≤ n) (h6 : n ≤ 6) (h : Yd w W.cl a (Qn n)) : ∃ V, lw (G_309_24 L xs (nI x) a) 200000 (1, W) = some V ∧ ∃ E, YG w a W V ((Qn n).wE E) ∧ Gr n E ∧ Cn n E := by
  have s1 : ∀ p q, ad 0 p q = true → p ≤ 0 ∨ 6 ≤ q := fun p q z => by
    rw [ad_0] at z
    cases z
  have s2 : ∀ u, u ≤ 0 → (bl n 0 0 (n - 1)).testBit u = true := fun u hu => by
    have e : u = 0 := by omega
    subst e
    exact bl_self
  have main : ∃ V, lw (G_309_24 L xs (nI x) a) 200000 (1, W) = some V ∧ ∃ E, YG w a W V ((Qn n).wE E) ∧ Gr n E ∧ (∀ u, u < n → (bl n E 0 (n - 1)).testBit u = true) := by
    refine lw_for (n := n - 1) (fun i s => ∃ V E, s = (nI (i + 1), V) ∧ YG w a W V ((Qn n).wE E) ∧ Gr n E ∧ (∀ p q, ad E p q = true → p ≤ i ∨ 6 ≤ q) ∧ (∀ u, u ≤ i → (bl n E 0 (n - 1)).testBit u = true)) ?_ ?_ ⟨W, 0, rfl, ⟨h, fun _ _ => rfl, Sm.rf W, Co.rf W, rfl⟩, gr_none h1 h6, s1, s2⟩ (by omega)
    · rintro i s hi ⟨V, E, rfl, ⟨y, f⟩, hG, hlow, hb⟩
      left
      obtain ⟨m1, m2⟩ := yMany' y
      have m1 : V.gI a 7 0 = some (nI n) := m1
      -- the other end
      have step : ∀ o, o < i + 1 → ∃ V', J_309_24_j52 L xs V (nI x) a (nI (i + 1)) (nI o) (nI (i + 1)) a = some (.inl (nI (i + 1 + 1), V')) ∧ ∃ E, YG w a W V' ((Qn n).wE E) ∧ Gr n E ∧ (∀ p q, ad E p q = true → p ≤ i + 1 ∨ 6 ≤ q) ∧ (∀ u, u ≤ i + 1 → (bl n E 0 (n - 1)).testBit u = true) := by
        intro o ho
        obtain ⟨V', e, y2, f2⟩ := yTurn (u := i + 1) (v := o) y hG (show i + 1 < n by omega) (show o < n by omega) (by omega)
        have hno : ad E (i + 1) o = false := by
          cases q : ad E (i + 1) o with
          | false => rfl
          | true => rcases hlow _ _ q with z | z <;> omega
        have et : te E (i + 1) o = ae E (i + 1) o := te_ae hno
        have y2 : Yd w V'.cl a ((Qn n).wE (te E (i + 1) o)) := y2
        rw [et] at y2
        have hG2 : Gr n (ae E (i + 1) o) := hG.ae (by omega) (by omega) (by omega)
        have hsub : ∀ p q, q < 6 → ad E p q = true → ad (ae E (i + 1) o) p q = true := fun p q hq hp => by
          rw [ae_ad (by omega) (by omega) hq, hp]; rfl
        have hold : ∀ u, u ≤ i → (bl n (ae E (i + 1) o) 0 (n - 1)).testBit u = true := fun u hu => bl_sub hG hG2 hsub (hb u hu)
        refine ⟨V', ?_, ae E (i + 1) o, ⟨y2, f.tr f2⟩, hG2, fun p q hp => ?_, fun u hu => ?_⟩
        · unfold J_309_24_j52
          rw [m2, Option.bind_some, e, Option.bind_some, nI_1]
        · by_cases hq : q < 6
          · rw [ae_ad (by omega) (by omega) hq] at hp
            rw [Bool.or_eq_true, Bool.or_eq_true] at hp
            rcases hp with z | z | z
            · rcases hlow _ _ z with z | z <;> omega
            · have := (of_decide_eq_true z).1; omega
            · have := (of_decide_eq_true z).1; omega
          · omega
        · by_cases q : u ≤ i
          · exact hold u q
          · have eu : u = i + 1 := by omega
            subst eu
            refine bl_all hG2 (by omega) (m := n - 1 + 1) ((bl_succ hG2).2 (.inr ⟨by omega, o, by omega, hold o (by omega), ?_⟩))
            rw [ae_ad (by omega) (by omega) (by omega)]
            rw [decide_eq_true (show o = o ∧ i + 1 = i + 1 from ⟨rfl, rfl⟩)]
            simp
      have e3 : nI x - nI x / 3 * 3 = nI (x % 3) := pk_rem (a := x) (d := 3) hx (by decide) (by decide)
      by_cases hz : x % 3 = 0
      · obtain ⟨V', e, r⟩ := step i (by omega)
        refine ⟨_, ?_, V', r.choose, rfl, r.choose_spec⟩
        unfold G_309_24
        dsimp only
        rw [m1, Option.bind_some, if_neg (nI_ge (show i + 1 < n by omega) (by omega)), e3, if_neg (fun z => z (by rw [hz]; rfl)), nI_pred]
        exact e
      · obtain ⟨V', e, r⟩ := step (dr L xs (i + 1) (i + 1)) (dr_lt (by omega))
        refine ⟨_, ?_, V', r.choose, rfl, r.choose_spec⟩
        unfold G_309_24
        dsimp only
        rw [m1, Option.bind_some, if_neg (nI_ge (show i + 1 < n by omega) (by omega)), e3, if_pos (nI_ne0 (by omega) (by omega)), h366 hL (by omega) (by omega) (by omega), Option.bind_some]
        exact e
    · rintro s ⟨V, E, rfl, ⟨y, f⟩, hG, hlow, hb⟩
      refine ⟨V, ?_, E, ⟨y, f⟩, hG, fun u hu => hb u (by omega)⟩
      obtain ⟨m1, m2⟩ := yMany' y
      have m1 : V.gI a 7 0 = some (nI n) := m1
      unfold G_309_24
      dsimp only
      rw [m1, Option.bind_some, if_pos (nI_le (by omega) (by omega))]
  obtain ⟨V, e, E, y, hG, hb⟩ := main
  exact ⟨V, e, E, y, hG, hb⟩
theorem r309_74 (hL : L ≤ 260) (h6 : n ≤ 6) {u E : Nat} (hu : u < n) {V : Wd} (h : YG w a W V ((Qn n).wE E)) (hG : Gr n E) (hC : Cn n E) : ∃ V', lw (G_309_74 L xs (nI x) a (nI u)) 200000 (0, V) = some V' ∧ ∃ E, YG w a W V' ((Qn n).wE E) ∧ Gr n E ∧ Cn n E := by
  refine lw_for (n := u) (fun i s => ∃ V E, s = (nI i, V) ∧ YG w a W V ((Qn n).wE E) ∧ Gr n E ∧ Cn n E) ?_ ?_ ⟨V, E, rfl, h, hG, hC⟩ (by omega)
  · rintro i s hi ⟨V, E, rfl, ⟨y, f⟩, hG, hC⟩
    left
    obtain ⟨m1, m2⟩ := yMany' y
    have m1 : V.gI a 7 0 = some (nI n) := m1
    obtain ⟨e, p, st, kn, ff, kf, h1, -, h3, -⟩ := id y
    have h1 : V.cl a = some (yo n e p 0 st kn kf ff) := h1
    have h3 : YM w V.cl a e n (ad E) := h3
    obtain ⟨r, g, e1, -, -, e2⟩ := YM.row h3 h6 hu
    have same : J_309_74_j139 L xs V (nI x) a (nI u) (nI i) = some (.inl (nI (i + 1), V)) := by
      unfold J_309_74_j139
      rw [nI_1]
    have turn : ad E u i = false → ∃ V', J_309_74_j115 L xs V (nI x) a (nI u) (nI i) = some (.inl (nI (i + 1), V')) ∧ ∃ E, YG w a W V' ((Qn n).wE E) ∧ Gr n E ∧ Cn n E := by
      intro hno
      have ei : (7 + (2 * nI u)) + nI i = nI (7 + 2 * u + i) := by rw [z7, z2, pk_mul, nI_add, nI_add]
      have ed : F_366 L xs V (nI (7 + 2 * u + i)) 3 = some (nI (dr L xs (7 + 2 * u + i) 3)) := h366 (m := 3) hL (by omega) (by decide) (by decide)
      unfold J_309_74_j115
      rw [ei, ed, Option.bind_some]
      by_cases hz : dr L xs (7 + 2 * u + i) 3 = 0
      · obtain ⟨V', e, y2, f2⟩ := yTurn (u := u) (v := i) y hG hu (show i < n by omega) (by omega)
        have y2 : Yd w V'.cl a ((Qn n).wE (te E u i)) := y2
        rw [te_ae hno] at y2
        refine ⟨V', ?_, ae E u i, ⟨y2, f.tr f2⟩, hG.ae hu (by omega) (by omega), hC.ae hG hu (by omega) (by omega)⟩
        rw [if_neg (fun z => z (by rw [hz]; rfl)), m2, Option.bind_some, e, Option.bind_some]
        unfold J_309_74_j139
        rw [nI_1]
      · refine ⟨V, ?_, E, ⟨y, f⟩, hG, hC⟩
        have := dr_lt (L := L) (xs := xs) (i := 7 + 2 * u + i) (m := 3) (by decide)
        rw [if_pos (nI_ne0 (by omega) (by omega)), same]
    have pre : G_309_74 L xs (nI x) a (nI u) (nI i, V) = (if ¬ bI (ad E u i) = 0 then J_309_74_j139 L xs V (nI x) a (nI u) (nI i) else if 5 < nI n then J_309_74_j115 L xs V (nI x) a (nI u) (nI i) else (F_366 L xs V ((6 + nI u) + nI i) 4).bind fun v43 => if ¬ v43 = 0 then J_309_74_j139 L xs V (nI x) a (nI u) (nI i) else J_309_74_j115 L xs V (nI x) a (nI u) (nI i)) := by
      unfold G_309_74
      dsimp only
      rw [if_neg (nI_ge hi (by omega)), yEdge h1, Option.bind_some, e1, Option.bind_some, e2 i (by omega), Option.bind_some, m1, Option.bind_some]
    have fin : ∀ o, (∃ V', o = some (.inl (nI (i + 1), V')) ∧ ∃ E, YG w a W V' ((Qn n).wE E) ∧ Gr n E ∧ Cn n E) → G_309_74 L xs (nI x) a (nI u) (nI i, V) = o → ∃ t, G_309_74 L xs (nI x) a (nI u) (nI i, V) = some (.inl t) ∧ ∃ V E, t = (nI (i + 1), V) ∧ YG w a W V ((Qn n).wE E) ∧ Gr n E ∧ Cn n E := by
      rintro o ⟨V', rfl, E', q⟩ ho
      exact ⟨_, ho, V', E', rfl, q⟩
    cases had : ad E u i with
    | true =>
      refine fin _ ⟨V, same, E, ⟨y, f⟩, hG, hC⟩ ?_
      rw [pre, had, if_pos (by decide)]
    | false =>
      obtain ⟨V', q1, q2⟩ := turn had
      by_cases h5 : (5 : Int32) < nI n
      · refine fin _ ⟨V', q1, q2⟩ ?_
        rw [pre, had, if_neg (by decide), if_pos h5]
      · have ei : (6 + nI u) + nI i = nI (6 + u + i) := by rw [z6, nI_add, nI_add]
        have ed : F_366 L xs V (nI (6 + u + i)) 4 = some (nI (dr L xs (6 + u + i) 4)) := h366 (m := 4) hL (by omega) (by decide) (by decide)
        by_cases hz : dr L xs (6 + u + i) 4 = 0
        · refine fin _ ⟨V', q1, q2⟩ ?_
          rw [pre, had, if_neg (by decide), if_neg h5, ei, ed, Option.bind_some, if_neg (fun z => z (by rw [hz]; rfl))]
        · refine fin _ ⟨V, same, E, ⟨y, f⟩, hG, hC⟩ ?_
          have := dr_lt (L := L) (xs := xs) (i := 6 + u + i) (m := 4) (by decide)
          rw [pre, had, if_neg (by decide), if_neg h5, ei, ed, Option.bind_some, if_pos (nI_ne0 (by omega) (by omega))]
  · rintro s ⟨V, E, rfl, y, hG, hC⟩
    refine ⟨V, ?_, E, y, hG, hC⟩
    unfold G_309_74
    dsimp only
    rw [if_pos (nI_le (Nat.le_refl _) (by omega))]
theorem r309_63 (hL : L ≤ 260) (h6 : n ≤ 6) {E : Nat} {V : Wd} (h : YG w a W V ((Qn n).wE E)) (hG : Gr n E) (hC : Cn n E) : ∃ V', lw (G_309_63 L xs (nI x) a) 200000 (0, V) = some V' ∧ ∃ E, YG w a W V' ((Qn n).wE E) ∧ Gr n E ∧ Cn n E := by
  refine lw_for (n := n) (fun i s => ∃ V E, s = (nI i, V) ∧ YG w a W V ((Qn n).wE E) ∧ Gr n E ∧ Cn n E) ?_ ?_ ⟨V, E, rfl, h, hG, hC⟩ (by omega)
  · rintro i s hi ⟨V, E, rfl, y, hG, hC⟩
    left
    obtain ⟨m1, m2⟩ := yMany' y.1
    have m1 : V.gI a 7 0 = some (nI n) := m1
    obtain ⟨V', e, E', q⟩ := r309_74 (xs := xs) (x := x) hL h6 hi y hG hC
    refine ⟨(nI (i + 1), V'), ?_, V', E', rfl, q⟩
    unfold G_309_63
    dsimp only
    rw [m1, Option.bind_some, if_neg (nI_ge hi (by omega)), e, Option.bind_some, nI_1]
  · rintro s ⟨V, E, rfl, y, hG, hC⟩
    obtain ⟨m1, m2⟩ := yMany' y.1
    have m1 : V.gI a 7 0 = some (nI n) := m1
    refine ⟨V, ?_, E, y, hG, hC⟩
    unfold G_309_63
    dsimp only
    rw [m1, Option.bind_some, if_pos (nI_le (Nat.le_refl _) (by omega))]
theorem r309_153 (hL : L ≤ 260) {E : Nat} {V : Wd} (h6 : n ≤ 6) (h : YG w a W V ((Qn n).wE E)) : ∃ V', lw (G_309_153 L xs (nI x) a) 200000 (0, V) = some V' ∧ ∃ pl, YG w a W V' (((Qn n).wE E).wm pl 0) ∧ ∀ v, pl v ≤ 8 := by
  refine lw_for (n := n) (fun i s => ∃ V pl, s = (nI i, V) ∧ YG w a W V (((Qn n).wE E).wm pl 0) ∧ ∀ v, pl v ≤ 8) ?_ ?_ ⟨V, fun _ => 0, rfl, h, fun _ => Nat.zero_le _⟩ (by omega)
  · rintro i s hi ⟨V, pl, rfl, ⟨y, f⟩, h8⟩
    left
    obtain ⟨m1, m2⟩ := yMany' y
    have m1 : V.gI a 7 0 = some (nI n) := m1
    have e3 : nI i - nI i / 3 * 3 = nI (i % 3) := pk_rem (a := i) (d := 3) (by omega) (by decide) (by decide)
    have step : ∀ m, 0 < m → m ≤ 9 → ∀ t, t = nI m → ∀ p, V.gR a 7 2 = some p → ∃ V', J_309_153_j183 L xs V (nI x) a (nI i) t (18 + nI i) (nI i) p = some (.inl (nI (i + 1), V')) ∧ ∃ pl, YG w a W V' (((Qn n).wE E).wm pl 0) ∧ ∀ v, pl v ≤ 8 := by
      intro m h0 hm t ht p hp
      subst ht
      obtain ⟨p', V', q1, q2, q3, q4, y2, f2⟩ := yPile (v := i) y h6 hi (dr L xs (18 + i) m)
      rw [hp] at q1
      cases q1
      refine ⟨V', ?_, _, ⟨y2, f.tr f2⟩, fun v => ?_⟩
      · unfold J_309_153_j183
        rw [z18, nI_add, h366 hL (by omega) h0 (by omega), Option.bind_some, q3, Option.bind_some, nI_1]
      · show upl pl i _ v ≤ 8
        unfold upl
        split
        · have := dr_lt (L := L) (xs := xs) (i := 18 + i) h0; omega
        · exact h8 v
    obtain ⟨e, p, st, kn, ff, kf, h1, -⟩ := id y
    have hp := yPebs h1
    by_cases hz : i % 3 = 0
    · obtain ⟨V', e, pl', q⟩ := step 9 (by decide) (by decide) 9 rfl p hp
      refine ⟨_, ?_, V', pl', rfl, q⟩
      unfold G_309_153
      dsimp only
      rw [m1, Option.bind_some, if_neg (nI_ge hi (by omega)), hp, Option.bind_some, e3, if_neg (fun z => z (by rw [hz]; rfl)), e]
    · obtain ⟨V', e, pl', q⟩ := step 4 (by decide) (by decide) 4 rfl p hp
      refine ⟨_, ?_, V', pl', rfl, q⟩
      unfold G_309_153
      dsimp only
      rw [m1, Option.bind_some, if_neg (nI_ge hi (by omega)), hp, Option.bind_some, e3, if_pos (nI_ne0 (by omega) (by omega)), e]
  · rintro s ⟨V, pl, rfl, y, h8⟩
    obtain ⟨m1, m2⟩ := yMany' y.1
    have m1 : V.gI a 7 0 = some (nI n) := m1
    refine ⟨V, ?_, pl, y, h8⟩
    unfold G_309_153
    dsimp only
    rw [m1, Option.bind_some, if_pos (nI_le (Nat.le_refl _) (by omega))]
end DRAWN
