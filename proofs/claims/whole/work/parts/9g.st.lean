/-! ===== THE LAW'S LOOP, AND ITS START ===== -/
section LL
variable {k L i : Nat} {xs : Nat → Int32} {W : Wd}
theorem gl_no (h : Sim k W) : ∃ W', J_299_23_j2564 L xs W (nI i) = some (.inl (nI (i + 6), W')) ∧ Sim (k + 7) W' := by
  obtain ⟨s1, s2, s3, s4, s5, s6, s7, c1, c2, c3⟩ := h
  refine ⟨W, ?_, s1, s2, s3, s4, s5, s6, s7, by omega, by omega, by omega⟩
  show some (Sum.inl (nI i + 6, W)) = _
  rw [show (6 : Int32) = nI 6 from rfl, nI_add]
theorem gl_it {X : Type} {c : Prop} [Decidable c] {a b : Option X} {P : Option X → Prop} (ha : P a) (hb : P b) : P (if c then a else b) := by
  by_cases h : c
  · rw [if_pos h]; exact ha
  · rw [if_neg h]; exact hb
theorem gl_all (h : Sim k W) (hk : k < 90000) (hL : i + 6 ≤ L) (hl : L ≤ 3072) : ∃ W', G_299_23 L xs (nI i, W) = some (.inl (nI (i + 6), W')) ∧ Sim (k + 7) W' := by
  have e0 : ¬ (Int32.ofNat L) - 6 < nI i := by
    show ¬ nI L - 6 < nI i
    rw [show (6 : Int32) = nI 6 from rfl, pk_sub (by omega)]
    exact nI_nlt (by omega) (by omega)
  simp only [G_299_23]
  rw [if_neg e0, ixn (by omega) (by omega), Option.bind_some]
  generalize xs i &&& 63 = q
  let P : Option ((Int32 × Wd) ⊕ (Wd) ⊕ (Int32 × Wd)) → Prop := fun r => ∃ W', r = some (.inl (nI (i + 6), W')) ∧ Sim (k + 7) W'
  refine gl_it (P := P) (gl0 h hk hL hl) ?_
  refine gl_it (P := P) (gl1 h hk hL hl) ?_
  refine gl_it (P := P) (gl2 h hk hL hl) ?_
  refine gl_it (P := P) (gl3 h hk hL hl) ?_
  refine gl_it (P := P) (gl4 h hk hL hl) ?_
  refine gl_it (P := P) (gl5 h hk hL hl) ?_
  refine gl_it (P := P) (gl6 h hk hL hl) ?_
  refine gl_it (P := P) (gl7 h hk hL hl) ?_
  refine gl_it (P := P) (gl8 h hk hL hl) ?_
  refine gl_it (P := P) (gl9 h hk hL hl) ?_
  refine gl_it (P := P) (gl10 h hk hL hl) ?_
  refine gl_it (P := P) (gl11 h hk hL hl) ?_
  refine gl_it (P := P) (gl12 h hk hL hl) ?_
  refine gl_it (P := P) (gl13 h hk hL hl) ?_
  refine gl_it (P := P) (gl14 h hk hL hl) ?_
  refine gl_it (P := P) (gl15 h hk hL hl) ?_
  refine gl_it (P := P) (gl16 h hk hL hl) ?_
  refine gl_it (P := P) (gl17 h hk hL hl) ?_
  refine gl_it (P := P) (gl18 h hk hL hl) ?_
  refine gl_it (P := P) (gl19 h hk hL hl) ?_
  refine gl_it (P := P) (gl20 h hk hL hl) ?_
  refine gl_it (P := P) (gl21 h hk hL hl) ?_
  refine gl_it (P := P) (gl22 h hk hL hl) ?_
  refine gl_it (P := P) (gl23 h hk hL hl) ?_
  refine gl_it (P := P) (gl24 h hk hL hl) ?_
  refine gl_it (P := P) (gl25 h hk hL hl) ?_
  refine gl_it (P := P) (gl26 h hk hL hl) ?_
  refine gl_it (P := P) (gl27 h hk hL hl) ?_
  refine gl_it (P := P) (gl28 h hk hL hl) ?_
  refine gl_it (P := P) (gl29 h hk hL hl) ?_
  refine gl_it (P := P) (gl30 h hk hL hl) ?_
  refine gl_it (P := P) (gl31 h hk hL hl) ?_
  refine gl_it (P := P) (gl32 h hk hL hl) ?_
  refine gl_it (P := P) (gl33 h hk hL hl) ?_
  refine gl_it (P := P) (gl34 h hk hL hl) ?_
  refine gl_it (P := P) (gl35 h hk hL hl) ?_
  refine gl_it (P := P) (gl36 h hk hL hl) ?_
  refine gl_it (P := P) (gl37 h hk hL hl) ?_
  refine gl_it (P := P) (gl38 h hk hL hl) ?_
  refine gl_it (P := P) (gl39 h hk hL hl) ?_
  refine gl_it (P := P) (gl40 h hk hL hl) ?_
  refine gl_it (P := P) (gl41 h hk hL hl) ?_
  refine gl_it (P := P) (gl42 h hk hL hl) ?_
  refine gl_it (P := P) (gl43 h hk hL hl) ?_
  exact gl_no h
theorem gl_end (hL : L < i + 6) (hi : i < 2 ^ 31) (hl : L ≤ 3072) : G_299_23 L xs (nI i, W) = some (.inr (.inl W)) := by
  have e0 : (Int32.ofNat L) - 6 < nI i := by
    show nI L - 6 < nI i
    rw [Int32.lt_iff_toInt_lt, show (6 : Int32) = nI 6 from rfl, pk_sub_toInt (by omega) (by decide), nI_toInt hi]
    omega
  simp only [G_299_23]
  rw [if_pos e0]
theorem gl_loop (hl : L ≤ 3072) : ∀ (f i k : Nat) (W : Wd) (m : Nat), L ≤ i + 6 * f → i ≤ L → f < m → Sim k W → k + 7 * f < 90000 → ∃ W', lw (G_299_23 L xs) m (nI i, W) = some (.inl W') ∧ Sim (k + 7 * f) W' := by
  intro f
  induction f with
  | zero =>
    intro i k W m h1 h2 hm h hk
    obtain ⟨m, rfl⟩ : ∃ j, m = j + 1 := ⟨m - 1, by omega⟩
    exact ⟨W, lw_end (gl_end (by omega) (by omega) hl), h⟩
  | succ f ih =>
    intro i k W m h1 h2 hm h hk
    obtain ⟨m, rfl⟩ : ∃ j, m = j + 1 := ⟨m - 1, by omega⟩
    by_cases q : i + 6 ≤ L
    · obtain ⟨W1, e1, s1⟩ := gl_all (xs := xs) h (by omega) q hl
      obtain ⟨W', e2, s2⟩ := ih (i + 6) (k + 7) W1 m (by omega) q (by omega) s1 (by omega)
      refine ⟨W', (lw_one e1).trans e2, ?_⟩
      rw [show k + 7 * (f + 1) = k + 7 + 7 * f by omega]
      exact s2
    · refine ⟨W, lw_end (gl_end (by omega) (by omega) hl), ?_⟩
      obtain ⟨s1, s2, s3, s4, s5, s6, s7, c1, c2, c3⟩ := h
      exact ⟨s1, s2, s3, s4, s5, s6, s7, by omega, by omega, by omega⟩
/-- the starting position: three vertices in a row, four pebbles at an end -/
theorem start_cn : Cn 3 (ae (ae 0 0 1) 1 2) := by
  show ∀ v, v < 3 → (bl 3 (ae (ae 0 0 1) 1 2) 0 2).testBit v = true
  decide
theorem m_start : ∃ B0 M0, F_79 = some B0 ∧ F_132 Md.zero = some M0 ∧ Sim 0 (W0 B0 M0) := by
  have g0 : Gr 3 0 := Gr.zero (by decide) (by decide)
  have g1 : Gr 3 (ae 0 0 1) := g0.ae (by decide) (by decide) (by decide)
  have g2 : Gr 3 (ae (ae 0 0 1) 1 2) := g1.ae (by decide) (by decide) (by decide)
  obtain ⟨B1, a1, a2, a3, a4, a5⟩ := c1 (n := 3) (tg := fun _ => 0) (wt := fun _ _ => 0) (pr := fun _ _ => none) Bd.zero
  obtain ⟨B2, b1, b2, b3, b4, b5, b6, b7, b8⟩ := c4 a2 (u := 0) (v := 1) (by decide) (by decide)
  obtain ⟨B3, d1, d2, d3, d4, d5, d6, d7, d8⟩ := c4 b2 (u := 1) (v := 2) (by decide) (by decide)
  obtain ⟨f, f1, f2⟩ := c13 d2 g2 start_cn
  obtain ⟨B4, hB4, e1, e2, e3, e4, e5, e6, e7, e8, e9⟩ := bd_dist B3 f
  rw [hB4] at f1 f2
  have p4 : CP (fun _ => 0) B4 := fun v hv => by rw [e5, d3, b3]; exact a3 v hv
  obtain ⟨B5, hB5, q1, q2, q3, q4, q5, q6, q7, q8, q9⟩ := up_cp (a := 4) p4 (show 0 < 6 by decide)
  obtain ⟨M1, m1, m2, m3, m4, m5, m6, m7, m8⟩ := m150 (M := Md.zero) (n := 3) (tg := fun _ => 0) (wt := fun _ _ => 0) (pr := fun _ _ => none)
  obtain ⟨M2, hM2, n1, n2, n3, n4, n5, n6, n7⟩ := md_read M1 (upd M1.read 0 3)
  have r2 : MR 3 0 M2.read := ⟨by rw [n5, pk_us]; rfl, fun v hv => by rw [n5, pk_un (by omega)]; exact m2.2 v hv⟩
  obtain ⟨M3, o1, o2, o3, o4, o5, o6, o7, o8, o9⟩ := m151 r2 (u := 0) (v := 1) (by decide) (by decide) (by decide)
  obtain ⟨M4, t1, t2, t3, t4, t5, t6, t7, t8, t9⟩ := m151 o2 (u := 1) (v := 2) (by decide) (by decide) (by decide)
  obtain ⟨M5, hM5, w1, w2, w3, w4, w5, w6, w7⟩ := md_read M4 (upd M4.read 7 4)
  obtain ⟨M6, z1', z2', z3', z4', z5', z6', z7', z8'⟩ := m164 M5
  have fr : MF Md.zero M5 := (((m8.tr n7).tr o9).tr t9).tr w7
  have mo := fr.mo
  have rd7 : ∀ j, 7 ≤ j → ¬ j = 7 → M5.read j = M1.read j := fun j h1 h2 => by rw [w5, pk_un h2, t3 j h1, o3 j h1, n5, pk_un (by omega)]
  refine ⟨B5, M6, ?_, ?_, ?_⟩
  · unfold F_79
    rw [show F_1 Bd.zero 3 = some B1 from a1, Option.bind_some, show F_4 B1 0 1 = some B2 from b1, Option.bind_some, show F_4 B2 1 2 = some B3 from d1, Option.bind_some, f1, Option.bind_some, show B4.w_pile (upd B4.pile 0 4) = B5 from hB5]
    rfl
  · unfold F_132
    rw [m1, Option.bind_some, show ix 0 93 = some 0 from rfl, Option.bind_some, hM2, Option.bind_some, show F_151 M2 0 1 = some M3 from o1, Option.bind_some, show F_151 M3 1 2 = some M4 from t1, Option.bind_some, show ix 7 93 = some 7 from rfl, Option.bind_some, hM5, Option.bind_some, z1']
    rfl
  · have hsp : SP B5 M6.now := by
      refine SP.row (R := M5.read) (fun j hj => z2' j hj) ?_
      refine ⟨3, ae (ae 0 0 1) 1 2, fun w => if w = 0 then 4 else 0, 0, fun _ => 0, fun _ _ => 0, fun _ _ => none, ⟨q2.trans (e1.trans d2.1), q3.trans (e2.trans d2.2)⟩, q1, ⟨q5.trans (e4.trans (d5.trans (b5.trans a5.1))), fun k hk => absurd hk (Nat.not_lt_zero _)⟩, fun u v hu hv => by rw [q4]; exact f2 u v hu hv, ⟨by rw [w5, pk_un (by decide)]; exact t2.1, fun v hv => by rw [w5, pk_un (by omega)]; exact t2.2 v hv⟩, fun v hv => ?_, ⟨by rw [rd7 _ (by decide) (by decide)]; exact m4.1, fun k hk => absurd hk (Nat.not_lt_zero _)⟩, ?_, g2, start_cn, ⟨by decide, fun k hk => absurd hk (Nat.not_lt_zero _)⟩, fun v hv => by
        show (if v = 0 then 4 else 0) ≤ 999
        split <;> omega⟩
      · show M5.read (7 + v) = nI (if v = 0 then 4 else 0)
        by_cases c : v = 0
        · subst c
          rw [w5, pk_us, if_pos rfl]
          rfl
        · rw [rd7 _ (by omega) (by omega), if_neg c]
          exact m3 v hv
      · rw [rd7 _ (by decide) (by decide), m5, q9, e3, d4, b4, a4]
    have nn : ∀ {a : Nat} {Q : Prop}, (none : Option Nat) = some a → Q := fun h => by cases h
    have hfc : FC (W0 B5 M6) := fun t a _ ha => nn (a := a) ha
    have hhh : HH Hs.zero (W0 B5 M6).bd M6.history M6.entries := ⟨0, 0, by decide, by decide, rfl, z3', rfl, fun i a _ ha => nn (a := a) ha, fun i j a _ _ ha _ => nn (a := a) ha, fun i hi => absurd hi (Nat.not_lt_zero _)⟩
    refine ⟨⟨fun _ => 0, 0, ⟨rfl, by decide, fun i hi => absurd hi (Nat.not_lt_zero _)⟩, ⟨?_, by decide, fun i hi => absurd hi (Nat.not_lt_zero _)⟩⟩, hsp, ⟨?_, .inl z4'⟩, ?_, hhh, .inl rfl, hfc, ?_, ?_, ?_⟩
    · show M6.length = nI 0
      rw [z8', mo.1.2.2.2.2.2.2.2]
      rfl
    · show (0 : Int32) = M6.isSaved
      rw [z4']
    · show (0 : Int32) = M6.reason
      rw [z5']
    · exact Nat.le_refl _
    · exact Nat.le_refl _
    · exact Nat.le_refl _
theorem law_true (L : Nat) (xs : Nat → Int32) (hL : L ≤ 3072) : ∃ B0 M0 W, F_79 = some B0 ∧ F_132 Md.zero = some M0 ∧ F_299 L xs (W0 B0 M0) = some (1, W) ∧ W.kc ≤ 300000 ∧ W.kn ≤ 5000000 := by
  obtain ⟨B0, M0, h1, h2, h3⟩ := m_start
  obtain ⟨W, e, s⟩ := gl_loop (xs := xs) hL 512 0 0 (W0 B0 M0) 200000 (by omega) (by omega) (by decide) h3 (by decide)
  obtain ⟨-, -, -, -, -, -, -, c1, c2, c3⟩ := s
  refine ⟨B0, M0, W, h1, h2, ?_, by omega, by omega⟩
  unfold F_299
  rw [show lw (G_299_23 L xs) 200000 (0, W0 B0 M0) = some (.inl W) from e]
  rfl
end LL
