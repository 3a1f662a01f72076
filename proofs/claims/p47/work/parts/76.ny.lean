/-! ===== THE YARD'S NEXT MOVE: a whole try ===== -/
section NY
variable {w : Nat → Nat} {W V : Wd} {a t : Nat} {Q : Ps} {b : Bool}
theorem hold_58 (hG : Gr Q.n Q.E) (hC : Cn Q.n Q.E) (ht : t < Q.n) {u i : Nat} (hu : u < Q.n) (hi : i < Q.n) (hne : ¬ u = i) (h2 : 2 ≤ Q.pl u) (h : hold Q.n Q.E t (pmv Q.pl u i) = true) : sm Q.pl Q.n ≤ 58 := by
  unfold hold at h
  rw [Bool.and_eq_true] at h
  have h1 := tot_57 hG hC ht (c := hx (ds Q.n Q.E t) (pmv Q.pl u i) Q.n)
  rw [tot_hx (inb_iff.mp h.1)] at h1
  have := pmv_sm hu hi hne h2
  omega
theorem y314_step (h : YB b w V.cl a Q t) (hG : Gr Q.n Q.E) (hC : Cn Q.n Q.E) (ht : t < Q.n) {u i : Nat} (hu : u < Q.n) (hi : i < Q.n) (h9 : ∀ v, v < Q.n → Q.pl v ≤ 999) (htop : V.top < 850000) :
    ∃ r, G_314_12 a (nI t) (nI u) (nI i, V) = some r ∧ ((gd Q.n Q.E t Q.pl u i = false ∧ r = .inl (nI (i + 1), V)) ∨ ∃ V' w', YB true w' V'.cl a Q t ∧ Fz w w' a (if b then 1 else 9) (if b then 6 else 32816) V V' ∧ ((gd Q.n Q.E t Q.pl u i = false ∧ sm Q.pl Q.n ≤ 58 ∧ r = .inl (nI (i + 1), V')) ∨ (gd Q.n Q.E t Q.pl u i = true ∧ r = .inr (.inr (nI (10 * u + i), V'))))) := by
  have hn := hG.2.1
  have u9 := h9 u hu
  have i9 := h9 i hi
  obtain ⟨e, p, st, kn, ff, kf, h1, h2, h3, h4, h5, h6⟩ := id h.2
  obtain ⟨r, f, r1, r2, r3, r4⟩ := yRow h3 hn hu
  have pu := (h4.put hn hu 0).1
  have pi := (h4.put hn hi 0).1
  have pre : G_314_12 a (nI t) (nI u) (nI i, V) = (if bI (ad Q.E u i) = 0 then J_314_12_j115 V a (nI t) (nI u) (nI i) else if nI (Q.pl u) < 2 then J_314_12_j115 V a (nI t) (nI u) (nI i) else if ¬ nI (Q.pl i) = 999 then (V.sI p (nI u) (nI (Q.pl u) - 2)).bind fun B28 => (B28.gR a 7 2).bind fun v30 => (B28.aI v30 (nI i)).bind fun v32 => (B28.sI v30 (nI i) (v32 + 1)).bind fun B34 => (B34.rc a 7).bind fun _ => (F_313 B34 a (nI t)).bind fun (v38, B39) => (B39.gR a 7 2).bind fun v40 => (B39.aI v40 (nI u)).bind fun v42 => (B39.sI v40 (nI u) (v42 + 2)).bind fun B44 => (B44.gR a 7 2).bind fun v46 => (B44.aI v46 (nI i)).bind fun v48 => (B44.sI v46 (nI i) (v48 - 1)).bind fun B50 => if v38 = 0 then J_314_12_j115 B50 a (nI t) (nI u) (nI i) else some (.inr (.inr (((10 * nI u) + nI i), B50))) else J_314_12_j115 V a (nI t) (nI u) (nI i)) := by
    unfold G_314_12
    dsimp only
    rw [yMany h1, Option.bind_some, if_neg (nI_ge hi (by omega)), yEdge h1, Option.bind_some, r1, Option.bind_some, r4 i hi, Option.bind_some, yPebs h1]
    simp only [Option.bind_some, pu, pi]
  have stay : J_314_12_j115 V a (nI t) (nI u) (nI i) = some (.inl (nI (i + 1), V)) := by
    unfold J_314_12_j115
    rw [nI_1]
  have no : mv Q.E Q.pl u i = false → gd Q.n Q.E t Q.pl u i = false := fun z => by unfold gd; rw [z]; rfl
  rw [pre]
  cases ha : ad Q.E u i with
  | false =>
    refine ⟨_, (if_pos (by decide)).trans stay, .inl ⟨no ?_, rfl⟩⟩
    unfold mv
    rw [ha, Bool.and_false, Bool.false_and]
  | true =>
    rw [if_neg (by decide)]
    have hne : ¬ u = i := (hG.2.2 u i (by omega) ha).2.2.1
    by_cases k2 : Q.pl u < 2
    · refine ⟨_, (if_pos (show nI (Q.pl u) < 2 from nI_lt (b := 2) k2 (by decide))).trans stay, .inl ⟨no ?_, rfl⟩⟩
      unfold mv
      rw [decide_eq_false (by omega), Bool.false_and, Bool.false_and]
    · rw [if_neg (show ¬ nI (Q.pl u) < 2 from nI_nlt (b := 2) (by omega) (by omega))]
      by_cases k9 : Q.pl i = 999
      · refine ⟨_, (if_neg (show ¬ ¬ nI (Q.pl i) = 999 from fun z => z (by rw [k9]; rfl))).trans stay, .inl ⟨no ?_, rfl⟩⟩
        unfold mv
        rw [decide_eq_false (by omega : ¬ Q.pl i < 999), Bool.and_false]
      · rw [if_pos (show ¬ nI (Q.pl i) = 999 from fun z => k9 ((nI_eq (b := 999) (by omega) (by decide)).1 z))]
        have hmv : mv Q.E Q.pl u i = true := by
          unfold mv
          rw [ha, decide_eq_true (by omega : 2 ≤ Q.pl u), decide_eq_true (by omega : Q.pl i < 999)]
          rfl
        obtain ⟨p', V1, V2, e1, e2, e3, e4, e5, e6, y2, f2⟩ := yMoveB h hn ht hu hi hne
        rw [yPebs h1] at e1
        cases e1
        have tp : V2.top = V.top := f2.2.2.2
        obtain ⟨V3, w3, e7, y3, f3⟩ := yReachB y2 hG hC ht (fun v hv => by
          show pmv Q.pl u i v ≤ 5000
          rw [pmv_at hne]
          have := h9 v hv
          split
          · omega
          · split <;> omega) (by omega)
        have e7 : F_313 V2 a (nI t) = some (bI (!hold Q.n Q.E t (pmv Q.pl u i)), V3) := e7
        obtain ⟨p3, V4, V5, g1, g2, g3, g4, g5, g6, y5, f5⟩ := yBackB y3 hn ht hu hi hne
        have rc2 : V2.rc a 7 = some () := by
          obtain ⟨_, _, _, _, _, _, q, _⟩ := y2.2
          exact rc_ q
        have fz : Fz w w3 a (if b then 1 else 9) (if b then 6 else 32816) V V5 := (f2.fz.tr (f3.tr f5.fz)).up (Nat.le_of_eq (by rw [Nat.zero_add, Nat.add_zero])) (Nat.le_of_eq (by rw [Nat.zero_add, Nat.add_zero]))
        rw [show (2 : Int32) = nI 2 from rfl, pk_sub (by omega), e3, Option.bind_some, e4, Option.bind_some, e5, Option.bind_some, nI_1, e6, Option.bind_some, rc2, Option.bind_some, e7, Option.bind_some]
        dsimp only
        rw [g1, Option.bind_some, g2, Option.bind_some, nI_add, show Q.pl u - 2 + 2 = Q.pl u by omega, g3, Option.bind_some, g4, Option.bind_some, g5, Option.bind_some, z1, pk_sub (by omega), Nat.add_sub_cancel, g6, Option.bind_some]
        cases hh : hold Q.n Q.E t (pmv Q.pl u i) with
        | true =>
          refine ⟨.inl (nI (i + 1), V5), ?_, .inr ⟨V5, w3, y5, fz, .inl ⟨by unfold gd; rw [hh, Bool.not_true, Bool.and_false], hold_58 hG hC ht hu hi hne (by omega) hh, rfl⟩⟩⟩
          rw [if_pos (by decide)]
          unfold J_314_12_j115
          rw [nI_1]
        | false =>
          refine ⟨.inr (.inr (nI (10 * u + i), V5)), ?_, .inr ⟨V5, w3, y5, fz, .inr ⟨by unfold gd; rw [hh, hmv]; rfl, rfl⟩⟩⟩
          rw [if_neg (by decide), z10, pk_mul, nI_add]
end NY
