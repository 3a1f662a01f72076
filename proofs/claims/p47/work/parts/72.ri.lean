/-! ===== REACHING: all vertices, the pile's code, one depth, all depths ===== -/
section RV
variable {w : Nat → Nat} {X W : Wd} {a P n E t e kn ff : Nat} {p : Nat → Nat}
theorem r311_83 {x3 : Int32} {N c : Nat} {rf : Wd → Nat → Nat → Nat → Int32 → Option (Int32 × Wd)} (x : RX w X a P n E t e kn ff) (hrf : RF w X a P n E t e kn ff x3 N rf) (hb : ∀ v, v < n → p v < 2 ^ ds n E t v) (hN : sm p n + 1 ≤ N) (r : RI X P n E t kn p W) :
    ∃ b W', lw (G_311_83 rf a P ff x3 (nI c)) 200000 (0, 0, W) = some (bI b, W') ∧ RI X P n E t kn p W' ∧ (b = false → ∀ v o, v < n → o < n → 2 ≤ p v → ad E v o = true → hold n E t (pmv p v o) = true) ∧ (b = true → ∃ v o, v < n ∧ o < n ∧ 2 ≤ p v ∧ ad E v o = true ∧ hold n E t (pmv p v o) = false) := by
  have hn := x.n6
  have main := lw_for (f := G_311_83 rf a P ff x3 (nI c)) (n := n) (fun i (s : Int32 × Int32 × Wd) => ∃ b V, s = (bI b, nI i, V) ∧ RI X P n E t kn p V ∧ (b = false → ∀ v o, v < i → o < n → 2 ≤ p v → ad E v o = true → hold n E t (pmv p v o) = true) ∧ (b = true → ∃ v o, v < n ∧ o < n ∧ 2 ≤ p v ∧ ad E v o = true ∧ hold n E t (pmv p v o) = false))
    (Q := fun y => ∃ b V, y = (bI b, V) ∧ RI X P n E t kn p V ∧ (b = false → ∀ v o, v < n → o < n → 2 ≤ p v → ad E v o = true → hold n E t (pmv p v o) = true) ∧ (b = true → ∃ v o, v < n ∧ o < n ∧ 2 ≤ p v ∧ ad E v o = true ∧ hold n E t (pmv p v o) = false)) ?_ ?_ (k := 200000) (s := ((0 : Int32), (0 : Int32), W)) ⟨false, W, rfl, r, fun _ v o hv => absurd hv (Nat.not_lt_zero _), fun z => by cases z⟩ (by omega)
  · obtain ⟨y, e1, b, V, rfl, h1, h2, h3⟩ := main
    exact ⟨b, V, e1, h1, h2, h3⟩
  · rintro i s hi ⟨b, V, rfl, rV, hf, htr⟩
    rw [G_311_83]
    dsimp only
    rw [rV.many x, Option.bind_some, if_neg (nI_ge hi (by omega))]
    cases b with
    | true =>
      right
      exact ⟨_, if_pos (by decide), true, V, rfl, rV, (fun z => absurd z (by decide)), htr⟩
    | false =>
      left
      rw [if_neg (show ¬ ¬ bI false = 0 from fun z => z rfl)]
      obtain ⟨b, V2, e1, r2, g1, g2⟩ := r311_100 (c := c) x hrf hb hN hi rV
      rw [show bI false = 0 from rfl, e1, Option.bind_some]
      refine ⟨(bI b, nI (i + 1), V2), ?_, b, V2, rfl, r2, fun z v o hv ho h2 ha => ?_, fun z => ?_⟩
      · show J_311_83_j198 rf V2 a P ff x3 (nI c) (bI b) (nI i) = _
        unfold J_311_83_j198
        rw [nI_1]
      · by_cases y : v = i
        · subst y; exact g1 z o ho h2 ha
        · exact hf rfl v o (by omega) ho h2 ha
      · obtain ⟨o, k1, k2, k3, k4⟩ := g2 z
        exact ⟨i, o, hi, k1, k2, k3, k4⟩
  · rintro s ⟨b, V, rfl, rV, hf, htr⟩
    refine ⟨(bI b, V), ?_, b, V, rfl, rV, hf, htr⟩
    rw [G_311_83]
    dsimp only
    rw [rV.many x, Option.bind_some, if_pos (nI_le (Nat.le_refl _) (by omega))]
/-- the pile's code -/
theorem r311_6 {x3 : Int32} {rf : Wd → Nat → Nat → Nat → Int32 → Option (Int32 × Wd)} (x : RX w X a P n E t e kn ff) (hp : ∀ v, v < n → p v ≤ 5000) (r : RI X P n E t kn p W) :
    lw (G_311_6 rf W a P ff x3) 200000 (0, 0) = some (if inb n (ds n E t) p then .inl (nI (hx (ds n E t) p n)) else .inr (1, W)) := by
  have hn := x.n6
  have main := lw_for (f := G_311_6 rf W a P ff x3) (n := n) (fun i (s : Int32 × Int32) => s = (nI (hx (ds n E t) p i), nI i) ∧ ∀ v, v < i → p v < 2 ^ ds n E t v)
    (Q := fun y => y = if inb n (ds n E t) p then .inl (nI (hx (ds n E t) p n)) else .inr (1, W)) ?_ ?_ (k := 200000) (s := ((0 : Int32), (0 : Int32))) ⟨rfl, fun v hv => absurd hv (Nat.not_lt_zero _)⟩ (by omega)
  · obtain ⟨y, e1, rfl⟩ := main
    exact e1
  · rintro i s hi ⟨rfl, hb⟩
    have hd := ds_le6 n E t i
    have h2 := p2_le hd
    have hpi := hp i hi
    rw [G_311_6]
    rw [r.many x, Option.bind_some, if_neg (nI_ge hi (by omega)), r.pile x hi, Option.bind_some, r.dist x hi, Option.bind_some, sh1 hd]
    by_cases h : p i < 2 ^ ds n E t i
    · left
      refine ⟨(nI (hx (ds n E t) p (i + 1)), nI (i + 1)), ?_, rfl, fun v hv => ?_⟩
      · rw [if_pos (nI_lt h (by omega)), Option.bind_some, Option.bind_some, shl_n _ (by omega), Nat.shiftLeft_eq, nI_add, nI_1]
        rfl
      · by_cases z : v = i
        · subst z; exact h
        · exact hb v (by omega)
    · right
      refine ⟨.inr (1, W), ?_, ?_⟩
      · rw [if_neg (nI_nlt (by omega) (by omega))]
      · rw [if_neg (fun z => h (inb_iff.mp z i hi))]
  · rintro s ⟨rfl, hb⟩
    refine ⟨.inl (nI (hx (ds n E t) p n)), ?_, ?_⟩
    · rw [G_311_6]
      rw [r.many x, Option.bind_some, if_pos (nI_le (Nat.le_refl _) (by omega))]
    · rw [if_pos (inb_iff.mpr hb)]
theorem RI.knw (r : RI X P n E t kn p W) : ∃ kl kc, W.cl kn = some (.inl (2, kl, .inl kc)) ∧ KV n E t kl kc := r.2.1
/-- one depth -/
theorem r311_B {x3 : Int32} {N : Nat} {rf : Wd → Nat → Nat → Nat → Int32 → Option (Int32 × Wd)} (x : RX w X a P n E t e kn ff) (hrf : RF w X a P n E t e kn ff x3 N rf) (hp : ∀ v, v < n → p v ≤ 5000) (hN : inb n (ds n E t) p = true → sm p n + 1 ≤ N) (r : RI X P n E t kn p W) :
    ∃ W', B_311 rf W a P ff x3 = some (bI (!hold n E t p), W') ∧ RI X P n E t kn p W' := by
  have hG : Gr n E := x.2.2.2.2.2.2.1
  have hC : Cn n E := x.2.2.2.2.2.2.2.1
  have ht : t < n := x.2.2.2.2.2.2.2.2
  rw [B_311, r311_6 x hp r, Option.bind_some]
  cases hi : inb n (ds n E t) p with
  | false =>
    refine ⟨W, ?_, r⟩
    rw [show hold n E t p = false by unfold hold; rw [hi, Bool.false_and], if_neg (by decide)]
    rfl
  | true =>
    rw [if_pos rfl]
    have hb := inb_iff.mp hi
    have hc := hx_lt (i := n) hb
    have h15 := (ds_15 hG hC ht).1
    have hh : hold n E t p = fa n (ad E) (ds n E t) (hx (ds n E t) p n) := by unfold hold; rw [hi, Bool.true_and]
    have hcN := N_le h15 hc
    obtain ⟨kl, kc, k1, rfl, k3⟩ := r.knw
    have hkl : 2 ^ sm (ds n E t) n ≤ 32768 := by have := Nat.pow_le_pow_right (show 0 < 2 by decide) h15; omega
    have e1 : W.aB kn (nI (hx (ds n E t) p n)) = some (kc (hx (ds n E t) p n)) := aB_ k1 (.inr rfl) hc (by omega)
    dsimp only
    rw [(r.known x).1, Option.bind_some, e1, Option.bind_some]
    by_cases h0 : kc (hx (ds n E t) p n) = 0
    · rw [if_pos h0]
      obtain ⟨b, V, e2, r2, g1, g2⟩ := r311_83 (c := hx (ds n E t) p n) x hrf hb (hN hi) r
      have hbb : b = !hold n E t p := by
        cases b with
        | false => rw [(hold_rec hG hi).2 (g1 rfl)]; rfl
        | true =>
          obtain ⟨v, o, q1, q2, q3, q4, q5⟩ := g2 rfl
          cases hq : hold n E t p with
          | false => rfl
          | true => rw [(hold_rec hG hi).1 hq v o q1 q2 q3 q4] at q5; cases q5
      obtain ⟨kl, kc2, m1, m2, m3⟩ := r2.knw
      subst m2
      obtain ⟨V2, e3, w3⟩ := sB_ m1 hc (by omega) (y := if b then 1 else 2) (.inr ⟨rfl, by cases b <;> decide⟩)
      refine ⟨V2, ?_, ?_⟩
      · rw [e2, Option.bind_some]
        dsimp only
        rw [← hbb]
        unfold J_311_0_j204
        rw [(r2.known x).1, Option.bind_some]
        cases b with
        | false =>
          rw [if_pos (show bI false = 0 from rfl)]
          unfold J_311_0_j220
          rw [show (2 : Int32).toInt8.toInt32 = if false = true then 1 else 2 by decide, e3, Option.bind_some, if_pos (.inl rfl), Option.bind_some]
        | true =>
          rw [if_neg (by decide)]
          unfold J_311_0_j220
          rw [show (1 : Int32).toInt8.toInt32 = if true = true then 1 else 2 by decide, e3, Option.bind_some, if_pos (.inr rfl), Option.bind_some]
      · obtain ⟨⟨f, a1, a2⟩, -, a4, a5, a6, a7⟩ := r2
        have hne : ¬ P = kn := fun z => by subst z; rw [a1] at m1; cases m1
        refine ⟨⟨f, by rw [w3.1, upm_n hne]; exact a1, a2⟩, ⟨_, _, by rw [w3.1]; exact upm_s, rfl, fun c hc2 => ?_⟩, fun b1 q1 q2 => by rw [w3.1, upm_n q2]; exact a4 b1 q1 q2, a5.tr w3.sm, (a6.tr w3.co).up (by decide) (by decide), w3.2.2.2.2.2.2.2.2.2.1.trans a7⟩
        by_cases z : c = hx (ds n E t) p n
        · subst z
          right
          rw [pk_us, ← hh, hbb]
          cases hold n E t p <;> rfl
        · rw [pk_un z]
          exact m3 c hc2
    · rw [if_neg h0]
      refine ⟨W, ?_, r⟩
      have h1 := (k3 _ hc).resolve_left h0
      rw [Option.bind_some, e1, Option.bind_some, h1, hh]
      cases fa n (ad E) (ds n E t) (hx (ds n E t) p n) with
      | false => rw [if_neg (show ¬ ¬ (if false = true then (2 : Int32) else 1) = 1 from fun z => z rfl)]; rfl
      | true => rw [if_pos (show ¬ (if true = true then (2 : Int32) else 1) = 1 by decide)]; rfl
/-- all depths -/
theorem r311_F {x3 : Int32} (x : RX w X a P n E t e kn ff) : ∀ N, RF w X a P n E t e kn ff x3 N (F_311 N)
  | 0 => fun q W r h1 h2 h3 => absurd h3 (by decide)
  | N + 1 => fun q W r h1 h2 h3 => r311_B x (r311_F x N) h1 (fun z => by have := h2 z; omega) r
/-- the search's answer -/
theorem r311 {x3 : Int32} (x : RX w X a P n E t e kn ff) (hp : ∀ v, v < n → p v ≤ 5000) (r : RI X P n E t kn p W) : ∃ W', F_311 64 W a P ff x3 = some (bI (!hold n E t p), W') ∧ RI X P n E t kn p W' := by
  have hG : Gr n E := x.2.2.2.2.2.2.1
  have hC : Cn n E := x.2.2.2.2.2.2.2.1
  have ht : t < n := x.2.2.2.2.2.2.2.2
  refine r311_F x 64 p W r hp (fun z => ?_) (by decide)
  have h1 := tot_57 hG hC ht (c := hx (ds n E t) p n)
  rw [tot_hx (inb_iff.mp z)] at h1
  omega
end RV
