/-! ===== THE YARD: is it connected; a list emptied ===== -/
section CONN
variable {w : Nat → Nat} {W : Wd} {a : Nat} {Q : Ps}
theorem yConn (h : Yd w W.cl a Q) (hG : Gr Q.n Q.E) (htop : W.top < 870000) : ∃ W' w' v, F_307 W a = some (v, W') ∧ ((v = 1 ∧ Cn Q.n Q.E) ∨ (v = 0 ∧ ¬ Cn Q.n Q.E)) ∧ Yd w' W'.cl a Q ∧ Fz w w' a 7 42 W W' := by
  have hn := hG.2.1
  have h0 := hG.1
  obtain ⟨X, e1, k1⟩ := yDist h hn (by omega)
  have row := k1.1.row hn (v := 0) (by omega)
  obtain ⟨⟨⟨er, r1, r2⟩, r3⟩, r4, r5, r6⟩ := k1
  obtain ⟨f, f1, f2⟩ := r3 0 (by omega)
  have htX := cl_lt f1
  have kq0 : Kq (fun _ => True) w (fr w a W.top) W.cl X.cl a := fun b c hb ho _ => ⟨by rw [r4 b (cl_lt hb)]; exact hb, (fr_o (cl_lt hb)).trans ho⟩
  have main : ∃ y, lw (G_307_12 X (W.top + 1 + 0) (nI Q.n)) 200000 (nI 0) = some y ∧ ((y = .inl () ∧ ∀ v, v < Q.n → fw (d0 Q.E) Q.n 0 v < 99) ∨ (y = .inr (0, X) ∧ ∃ v, v < Q.n ∧ ¬ fw (d0 Q.E) Q.n 0 v < 99)) := by
    refine lw_for (n := Q.n) (fun i st => st = nI i ∧ ∀ v, v < i → fw (d0 Q.E) Q.n 0 v < 99) ?_ ?_ ⟨rfl, fun v hv => absurd hv (Nat.not_lt_zero _)⟩ (by omega)
    · rintro i st hi ⟨rfl, h1⟩
      have pre : G_307_12 X (W.top + 1 + 0) (nI Q.n) (nI i) = if nI (fw (d0 Q.E) Q.n 0 i) < 99 then some (.inl (nI i + 1)) else some (.inr (.inr (0, X))) := by
        unfold G_307_12
        dsimp only
        rw [if_neg (nI_ge hi (by omega)), aI_ f1 hi (by omega), Option.bind_some, f2 i hi]
      rw [pre]
      have h99 := fw_99 Q.E Q.n 0 i
      by_cases z : fw (d0 Q.E) Q.n 0 i < 99
      · left
        refine ⟨nI (i + 1), ?_, rfl, fun v hv => ?_⟩
        · rw [if_pos (show nI (fw (d0 Q.E) Q.n 0 i) < 99 from nI_lt (b := 99) z (by decide)), nI_1]
        · by_cases y : v = i
          · subst y; exact z
          · exact h1 v (by omega)
      · right
        exact ⟨_, if_neg (show ¬ nI (fw (d0 Q.E) Q.n 0 i) < 99 from nI_nlt (b := 99) (by omega) (by omega)), .inr ⟨rfl, i, hi, z⟩⟩
    · rintro st ⟨rfl, h1⟩
      refine ⟨.inl (), ?_, .inl ⟨rfl, h1⟩⟩
      unfold G_307_12
      dsimp only
      rw [if_pos (nI_le (Nat.le_refl _) (by omega))]
  have fin : Yd (fr w a W.top) X.cl a Q ∧ Fz w (fr w a W.top) a 7 42 W X := ⟨h.ext kq0 hn, fun b hb => fr_o hb, fun b hb _ => r4 b hb, r5, r6, by omega⟩
  have run : ∀ (y : Unit ⊕ (Int32 × Wd)) (v : Int32), (match y with | .inr r15 => some r15 | .inl _ => some (1, X)) = some (v, X) → lw (G_307_12 X (W.top + 1 + 0) (nI Q.n)) 200000 (nI 0) = some y → F_307 W a = some (v, X) := fun y v hv e2 => by
    obtain ⟨e, p, st, kn, ff, kf, h1, -⟩ := h
    unfold F_307
    rw [rc_ h1, Option.bind_some, e1, Option.bind_some]
    dsimp only
    rw [z0, row, Option.bind_some, ln_ f1 (by decide), Option.bind_some, e2, Option.bind_some]
    exact hv
  obtain ⟨y, e2, ⟨rfl, q⟩ | ⟨rfl, v, q1, q2⟩⟩ := main
  · exact ⟨X, _, 1, run _ 1 rfl e2, .inl ⟨rfl, (fw_cn hG).2 q⟩, fin⟩
  · exact ⟨X, _, 0, run _ 0 rfl e2, .inr ⟨rfl, fun z => q2 ((fw_cn hG).1 z v q1)⟩, fin⟩
end CONN
section CLEAR
variable {w : Nat → Nat} {W : Wd} {o st : Nat} {l : List Nat}
theorem alClear (h : AL w W.cl o st l) : ∃ W', F_357 W st = some W' ∧ AL w W'.cl o st [] ∧ Fy w o W W' ∧ Kq (fun k => ¬ k = 5 ∧ ¬ k = 30) w w W.cl W'.cl o := by
  obtain ⟨mc, es, h1, h2, h3, h4⟩ := h
  obtain ⟨W1, e1, k1⟩ := pv_ (v := .int (mc + 1)) (i := 0) h1 ⟨show 0 < 3 by decide, rfl, rfl, nofun⟩
  have c1 : W1.cl st = some (.inr (10, [.int (mc + 1), .ref es, .int (nI l.length)])) := by rw [k1.1]; exact upm_s
  obtain ⟨W2, e2, k2⟩ := pv_ (v := .int 0) (i := 2) c1 ⟨show 2 < 3 by decide, rfl, rfl, nofun⟩
  have c2 : W2.cl st = some (.inr (10, [.int (mc + 1), .ref es, .int (nI 0)])) := by rw [k2.1]; exact upm_s
  have kq2 : Kq (fun k => ¬ k = 5 ∧ ¬ k = 30) w w W.cl W2.cl o := Kq.tr (Kq.up (k1.kq h1) fun k hk => hk.2) (Kq.up (k2.kq c1) fun k hk => hk.2)
  have fy2 : Fy w o W W2 := (k1.fy h2).tr (k2.fy h2)
  have run : ∀ W3, lw (G_357_27 es (nI l.length)) 200000 (nI 0, W2) = some W3 → F_357 W st = some W3 := fun W3 hw => by
    unfold F_357
    rw [gI_ h1 rfl, Option.bind_some, e1, Option.bind_some, gR_ c1 rfl, Option.bind_some, gI_ c1 rfl, Option.bind_some, e2, Option.bind_some, z0, hw, Option.bind_some]
  rcases h4 with ⟨q1, rfl⟩ | ⟨q1, f, q2, q3⟩
  · refine ⟨W2, run W2 ?_, ⟨mc + 1, es, c2, h2, by decide, .inl ⟨q1, rfl⟩⟩, fy2, kq2⟩
    refine lw_end (k := 199999) ?_
    unfold G_357_27
    dsimp only
    rw [if_pos (show nI ([] : List Nat).length ≤ nI 0 from nI_le (Nat.le_refl _) (by decide))]
  · have hes : ¬ es = st := fun z => by subst z; rw [h1] at q2; cases q2
    have d2 : W2.cl es = some (.inl (5, 10, .inr (.inr (.inr (.inr f))))) := by rw [k2.1, upm_n hes, k1.1, upm_n hes]; exact q2
    have main : ∃ V, lw (G_357_27 es (nI l.length)) 200000 (nI 0, W2) = some V ∧ (∃ g, V.cl es = some (.inl (5, 10, .inr (.inr (.inr (.inr g)))))) ∧ (∀ b, ¬ b = es → V.cl b = W2.cl b) ∧ Fy w o W2 V := by
      refine lw_for (n := l.length) (fun i s => ∃ V, s = (nI i, V) ∧ (∃ g, V.cl es = some (.inl (5, 10, .inr (.inr (.inr (.inr g)))))) ∧ (∀ b, ¬ b = es → V.cl b = W2.cl b) ∧ Fy w o W2 V) ?_ ?_ ⟨W2, rfl, ⟨f, d2⟩, fun _ _ => rfl, ⟨fun _ _ => rfl, Sm.rf W2, Co.rf W2, rfl⟩⟩ (by omega)
      · rintro i s hi ⟨V, rfl, ⟨g, g1⟩, g2, g3⟩
        left
        obtain ⟨V', e, k⟩ := sN_ g1 (i := i) (by omega) (by decide)
        refine ⟨(nI (i + 1), V'), ?_, V', rfl, ⟨_, by rw [k.1]; exact upm_s⟩, fun b hb => by rw [k.1, upm_n hb]; exact g2 b hb, g3.tr (k.fy q1)⟩
        unfold G_357_27
        dsimp only
        rw [if_neg (nI_ge hi (by omega)), e, Option.bind_some, nI_1]
      · rintro s ⟨V, rfl, g1, g2, g3⟩
        refine ⟨V, ?_, g1, g2, g3⟩
        unfold G_357_27
        dsimp only
        rw [if_pos (nI_le (Nat.le_refl _) (by omega))]
    obtain ⟨V, e3, ⟨g, g1⟩, g2, g3⟩ := main
    refine ⟨V, run V e3, ⟨mc + 1, es, by rw [g2 st (fun z => hes z.symm)]; exact c2, h2, by decide, .inr ⟨q1, g, g1, fun i hi => absurd hi (Nat.not_lt_zero _)⟩⟩, fy2.tr g3, fun b c hb ho hk => ?_⟩
    refine ⟨?_, ho⟩
    rw [g2 b (fun z => by subst z; rw [q2] at hb; cases hb; exact hk.1 rfl)]
    exact (kq2 b c hb ho hk).1
end CLEAR
