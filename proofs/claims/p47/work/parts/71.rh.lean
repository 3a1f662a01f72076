/-! ===== REACHING: the yard's search, over the cells ===== -/
/-- what the search stands on: the yard, the distances to the target, the pile's copy at P -/
def RX (w : Nat → Nat) (X : Wd) (a P n E t e kn ff : Nat) : Prop := (∃ p mc st kf, X.cl a = some (yo n e p mc st kn kf ff)) ∧ YE w X.cl a e n E ∧ (∃ fc, X.cl ff = some (.inl (0, n, .inl fc)) ∧ ∀ v, v < n → fc v = nI (ds n E t v)) ∧ ¬ P = ff ∧ (∃ f, X.cl P = some (.inl (0, n, .inl f))) ∧ (∃ kl kc, X.cl kn = some (.inl (2, kl, .inl kc))) ∧ Gr n E ∧ Cn n E ∧ t < n
/-- the pile at P is p, what is known is true, all else is as it was -/
def RI (X : Wd) (P n E t kn : Nat) (p : Nat → Nat) (W : Wd) : Prop := (∃ f, W.cl P = some (.inl (0, n, .inl f)) ∧ ∀ v, v < n → f v = nI (p v)) ∧ (∃ kl kc, W.cl kn = some (.inl (2, kl, .inl kc)) ∧ KV n E t kl kc) ∧ (∀ b, ¬ b = P → ¬ b = kn → W.cl b = X.cl b) ∧ Sm X W ∧ Co 0 0 X W ∧ W.top = X.top
section RH
variable {w : Nat → Nat} {X W : Wd} {a P n E t e kn ff : Nat} {p : Nat → Nat}
theorem RI.far (x : RX w X a P n E t e kn ff) (r : RI X P n E t kn p W) {b : Nat} {c : AC} (hb : X.cl b = some c) (h1 : ∀ f, ¬ c = .inl (0, n, .inl f)) (h2 : ∀ kl kc, ¬ c = .inl (2, kl, .inl kc)) : W.cl b = some c := by
  obtain ⟨-, -, -, -, ⟨f, hP⟩, ⟨kl, kc, hk⟩, -⟩ := x
  rw [r.2.2.1 b (fun q => by subst q; rw [hP] at hb; cases hb; exact h1 _ rfl) (fun q => by subst q; rw [hk] at hb; cases hb; exact h2 _ _ rfl)]
  exact hb
theorem RX.n6 (x : RX w X a P n E t e kn ff) : n ≤ 6 := by
  obtain ⟨-, -, -, -, -, -, hG, -⟩ := x
  exact hG.2.1
theorem RI.yard (x : RX w X a P n E t e kn ff) (r : RI X P n E t kn p W) : ∃ p0 mc st kf, W.cl a = some (yo n e p0 mc st kn kf ff) := by
  obtain ⟨p0, mc, st, kf, h⟩ := x.1
  exact ⟨p0, mc, st, kf, r.far x h nofun nofun⟩
theorem RI.many (x : RX w X a P n E t e kn ff) (r : RI X P n E t kn p W) : W.gI a 7 0 = some (nI n) := by
  obtain ⟨p0, mc, st, kf, h⟩ := r.yard x
  exact yMany h
theorem RI.known (x : RX w X a P n E t e kn ff) (r : RI X P n E t kn p W) : W.gR a 7 5 = some kn ∧ W.rc a 7 = some () := by
  obtain ⟨p0, mc, st, kf, h⟩ := r.yard x
  exact ⟨yKnown h, rc_ h⟩
theorem RI.edge (x : RX w X a P n E t e kn ff) (r : RI X P n E t kn p W) {u v : Nat} (hu : u < n) (hv : v < n) : ∃ q, W.gR a 7 1 = some e ∧ W.aR e (nI u) = some q ∧ W.aB q (nI v) = some (bI (ad E u v)) := by
  obtain ⟨p0, mc, st, kf, h⟩ := r.yard x
  have hn := x.n6
  obtain ⟨b1, q, er, b2, b3, b4⟩ := x.2.1
  obtain ⟨c1, c2, f, c3, c4⟩ := b3 u hu
  refine ⟨q u, yEdge h, aR_ (r.far x b2 nofun nofun) (by decide) hu (by omega) c1, ?_⟩
  rw [aB_ (r.far x c3 (fun f z => by cases z) (fun kl kc z => by cases z)) (.inl rfl) hv (by omega), c4 v hv]
theorem RI.pile (x : RX w X a P n E t e kn ff) (r : RI X P n E t kn p W) {v : Nat} (hv : v < n) : W.aI P (nI v) = some (nI (p v)) := by
  obtain ⟨⟨f, h1, h2⟩, -⟩ := r
  have hn := x.n6
  rw [aI_ h1 hv (by omega), h2 v hv]
theorem RI.dist (x : RX w X a P n E t e kn ff) (r : RI X P n E t kn p W) {v : Nat} (hv : v < n) : W.aI ff (nI v) = some (nI (ds n E t v)) := by
  obtain ⟨-, -, ⟨fc, h1, h2⟩, h3, -, ⟨kl, kc, hk⟩, -⟩ := id x
  have hn := x.n6
  have h4 : W.cl ff = some (.inl (0, n, .inl fc)) := by
    rw [r.2.2.1 ff (fun q => h3 q.symm) (fun q => by subst q; rw [hk] at h1; cases h1)]
    exact h1
  rw [aI_ h4 hv (by omega), h2 v hv]
theorem RI.put (x : RX w X a P n E t e kn ff) (r : RI X P n E t kn p W) {v : Nat} (hv : v < n) (k : Nat) : ∃ W', W.sI P (nI v) (nI k) = some W' ∧ RI X P n E t kn (upl p v k) W' := by
  obtain ⟨⟨f, h1, h2⟩, ⟨kl, kc, h3, h4⟩, h5, h6, h7, h8⟩ := r
  have hn := x.n6
  obtain ⟨W', e1, q⟩ := sI_ h1 hv (by omega) (nI k)
  refine ⟨W', e1, ⟨_, by rw [q.1]; exact upm_s, fun y hy => ?_⟩, ⟨kl, kc, by rw [q.1, upm_n (fun z => by subst z; rw [h1] at h3; cases h3)]; exact h3, h4⟩, fun b hb1 hb2 => by rw [q.1, upm_n hb1]; exact h5 b hb1 hb2, h6.tr q.sm, (h7.tr q.co).up (by decide) (by decide), q.2.2.2.2.2.2.2.2.2.1.trans h8⟩
  unfold upl
  by_cases z : y = v
  · subst z; rw [pk_us, if_pos rfl]
  · rw [pk_un z, if_neg z]; exact h2 y hy
theorem RI.cong {q : Nat → Nat} (r : RI X P n E t kn p W) (h : ∀ v, v < n → q v = p v) : RI X P n E t kn q W := by
  obtain ⟨⟨f, h1, h2⟩, h3⟩ := r
  exact ⟨⟨f, h1, fun v hv => by rw [h2 v hv, h v hv]⟩, h3⟩
/-- a move on the copy -/
theorem RI.mv (x : RX w X a P n E t e kn ff) (r : RI X P n E t kn p W) {v o : Nat} (hv : v < n) (ho : o < n) (hne : ¬ v = o) : ∃ W1 W2, W.sI P (nI v) (nI (p v - 2)) = some W1 ∧ W1.aI P (nI o) = some (nI (p o)) ∧ W1.sI P (nI o) (nI (p o + 1)) = some W2 ∧ RI X P n E t kn (pmv p v o) W2 := by
  obtain ⟨W1, e1, r1⟩ := r.put x hv (p v - 2)
  obtain ⟨W2, e2, r2⟩ := r1.put x ho (p o + 1)
  refine ⟨W1, W2, e1, ?_, e2, r2.cong fun u hu => ?_⟩
  · rw [r1.pile x ho]
    show some (nI (if o = v then p v - 2 else p o)) = _
    rw [if_neg (fun z => hne z.symm)]
  · rw [pmv_at hne]
    show _ = if u = o then p o + 1 else if u = v then p v - 2 else p u
    rfl
/-- and back -/
theorem RI.back (x : RX w X a P n E t e kn ff) {v o : Nat} (r : RI X P n E t kn (pmv p v o) W) (hv : v < n) (ho : o < n) (hne : ¬ v = o) (h2 : 2 ≤ p v) : ∃ W1 W2, W.aI P (nI v) = some (nI (p v - 2)) ∧ W.sI P (nI v) (nI (p v)) = some W1 ∧ W1.aI P (nI o) = some (nI (p o + 1)) ∧ W1.sI P (nI o) (nI (p o)) = some W2 ∧ RI X P n E t kn p W2 := by
  obtain ⟨W1, e1, r1⟩ := r.put x hv (p v)
  obtain ⟨W2, e2, r2⟩ := r1.put x ho (p o)
  refine ⟨W1, W2, ?_, e1, ?_, e2, r2.cong fun u hu => ?_⟩
  · rw [r.pile x hv, pmv_at hne, if_neg hne, if_pos rfl]
  · rw [r1.pile x ho]
    show some (nI (if o = v then p v else pmv p v o o)) = _
    rw [if_neg (fun z => hne z.symm), pmv_at hne, if_pos rfl]
  · show p u = if u = o then p o else if u = v then p v else pmv p v o u
    by_cases z1 : u = o
    · rw [if_pos z1, z1]
    · rw [if_neg z1]
      by_cases z2 : u = v
      · rw [if_pos z2, z2]
      · rw [if_neg z2, pmv_at hne, if_neg z1, if_neg z2]
/-- what the search in one depth says -/
def RF (w : Nat → Nat) (X : Wd) (a P n E t e kn ff : Nat) (x3 : Int32) (N : Nat) (rf : Wd → Nat → Nat → Nat → Int32 → Option (Int32 × Wd)) : Prop := ∀ (q : Nat → Nat) (W : Wd), RI X P n E t kn q W → (∀ v, v < n → q v ≤ 5000) → (inb n (ds n E t) q = true → sm q n + 2 ≤ N) → 1 ≤ N → ∃ W', rf W a P ff x3 = some (bI (!hold n E t q), W') ∧ RI X P n E t kn q W'
theorem r311_100 {x3 : Int32} {N c : Nat} {rf : Wd → Nat → Nat → Nat → Int32 → Option (Int32 × Wd)} (x : RX w X a P n E t e kn ff) (hrf : RF w X a P n E t e kn ff x3 N rf) (hb : ∀ v, v < n → p v < 2 ^ ds n E t v) (hN : sm p n + 1 ≤ N) {v : Nat} (hv : v < n) (r : RI X P n E t kn p W) :
    ∃ b W', lw (G_311_100 rf a P ff x3 (nI c) (nI v)) 200000 (0, 0, W) = some (bI b, W') ∧ RI X P n E t kn p W' ∧ (b = false → ∀ o, o < n → 2 ≤ p v → ad E v o = true → hold n E t (pmv p v o) = true) ∧ (b = true → ∃ o, o < n ∧ 2 ≤ p v ∧ ad E v o = true ∧ hold n E t (pmv p v o) = false) := by
  have hn := x.n6
  have hG : Gr n E := x.2.2.2.2.2.2.1
  have hC : Cn n E := x.2.2.2.2.2.2.2.1
  have ht : t < n := x.2.2.2.2.2.2.2.2
  have p64 : ∀ v, v < n → p v < 64 := fun v hv => Nat.lt_of_lt_of_le (hb v hv) (by have := ds_le6 n E t v; exact Nat.pow_le_pow_right (by decide) this)
  have main := lw_for (f := G_311_100 rf a P ff x3 (nI c) (nI v)) (n := n) (fun i (s : Int32 × Int32 × Wd) => ∃ b V, s = (bI b, nI i, V) ∧ RI X P n E t kn p V ∧ (b = false → ∀ o, o < i → 2 ≤ p v → ad E v o = true → hold n E t (pmv p v o) = true) ∧ (b = true → ∃ o, o < n ∧ 2 ≤ p v ∧ ad E v o = true ∧ hold n E t (pmv p v o) = false))
    (Q := fun y => ∃ b V, y = (bI b, V) ∧ RI X P n E t kn p V ∧ (b = false → ∀ o, o < n → 2 ≤ p v → ad E v o = true → hold n E t (pmv p v o) = true) ∧ (b = true → ∃ o, o < n ∧ 2 ≤ p v ∧ ad E v o = true ∧ hold n E t (pmv p v o) = false)) ?_ ?_ (k := 200000) (s := ((0 : Int32), (0 : Int32), W)) ⟨false, W, rfl, r, fun _ o ho => absurd ho (Nat.not_lt_zero _), fun z => by cases z⟩ (by omega)
  · obtain ⟨y, e1, b, V, rfl, h1, h2, h3⟩ := main
    exact ⟨b, V, e1, h1, h2, h3⟩
  · rintro i s hi ⟨b, V, rfl, rV, hf, htr⟩
    have e0 : G_311_100 rf a P ff x3 (nI c) (nI v) (bI b, nI i, V) = (if nI (p v) ≤ 1 then some (.inr (bI b, V)) else if ¬ bI b = 0 then some (.inr (bI b, V)) else (V.gR a 7 1).bind fun v32 => (V.aR v32 (nI v)).bind fun v34 => (V.aB v34 (nI i)).bind fun v36 => if v36 = 0 then J_311_100_j192 rf V a P ff x3 (nI c) (bI b) (nI v) (nI i) else (V.aI ff (nI i)).bind fun v39 => (V.aI ff (nI v)).bind fun v41 => if v39 ≤ (v41 + 1) then (V.aI P (nI v)).bind fun v44 => (V.sI P (nI v) (v44 - 2)).bind fun B46 => (B46.aI P (nI i)).bind fun v48 => (B46.sI P (nI i) (v48 + 1)).bind fun B50 => (B50.rc a 7).bind fun _ => (rf B50 a P ff x3).bind fun (v54, B55) => (B55.aI P (nI v)).bind fun v56 => (B55.sI P (nI v) (v56 + 2)).bind fun B58 => (B58.aI P (nI i)).bind fun v60 => (B58.sI P (nI i) (v60 - 1)).bind fun B62 => J_311_100_j192 rf B62 a P ff x3 (nI c) v54 (nI v) (nI i) else J_311_100_j192 rf V a P ff x3 (nI c) (bI b) (nI v) (nI i)) := by
      rw [G_311_100]
      dsimp only
      rw [rV.many x, Option.bind_some, if_neg (nI_ge hi (by omega)), rV.pile x hv, Option.bind_some]
    rw [e0]
    have hpv := p64 v hv
    by_cases h1 : p v ≤ 1
    · right
      exact ⟨_, if_pos (nI_le (b := 1) h1 (by decide)), b, V, rfl, rV, fun _ o _ h2 => by omega, htr⟩
    · rw [if_neg (show ¬ nI (p v) ≤ 1 from nI_ge (a := 1) (by omega) (by omega))]
      cases b with
      | true =>
        right
        exact ⟨_, if_pos (by decide), true, V, rfl, rV, (fun z => absurd z (by decide)), htr⟩
      | false =>
        left
        rw [if_neg (show ¬ ¬ bI false = 0 from fun z => z rfl)]
        obtain ⟨q, g1, g2, g3⟩ := rV.edge x hv hi
        rw [g1, Option.bind_some, g2, Option.bind_some, g3, Option.bind_some]
        cases ha : ad E v i with
        | false =>
          rw [if_pos (by decide)]
          refine ⟨(bI false, nI (i + 1), V), ?_, false, V, rfl, rV, fun _ o ho h2 ho2 => ?_, fun z => by cases z⟩
          · unfold J_311_100_j192
            rw [nI_1]
          · by_cases z : o = i
            · subst z; rw [ha] at ho2; cases ho2
            · exact hf rfl o (by omega) h2 ho2
        | true =>
          rw [if_neg (by decide)]
          have hne : ¬ v = i := (hG.2.2 v i (by omega) ha).2.2.1
          have hd : ds n E t i ≤ ds n E t v + 1 := by
            have := hC.ds hG ht hv
            by_cases z : ds n E t v < 5
            · exact ds_near hG hi hv ha z
            · have := hC.ds hG ht hi; omega
          have d1 := ds_le6 n E t i
          have d2 := ds_le6 n E t v
          have hpi := p64 i hi
          obtain ⟨V1, V2, k1, k2, k3, r2⟩ := rV.mv x hv hi hne
          obtain ⟨V3, k4, r3⟩ := hrf (pmv p v i) V2 r2 (fun u hu => by
            rw [pmv_at hne]
            have := p64 u hu
            split
            · omega
            · split <;> omega) (fun _ => by have := pmv_sm (n := n) hv hi hne (p := p) (by omega); omega) (by omega)
          obtain ⟨V4, V5, l1, l2, l3, l4, r5⟩ := r3.back x hv hi hne (by omega)
          rw [rV.dist x hi, Option.bind_some, rV.dist x hv, Option.bind_some, nI_1, if_pos (nI_le hd (by omega)), rV.pile x hv, Option.bind_some, show (2 : Int32) = nI 2 from rfl, pk_sub (by omega), k1, Option.bind_some, k2, Option.bind_some, nI_1, k3, Option.bind_some, (r2.known x).2, Option.bind_some, k4, Option.bind_some]
          dsimp only
          rw [l1, Option.bind_some, nI_add, show p v - 2 + 2 = p v by omega, l2, Option.bind_some, l3, Option.bind_some, z1, pk_sub (by omega), Nat.add_sub_cancel, l4, Option.bind_some]
          refine ⟨(bI (!hold n E t (pmv p v i)), nI (i + 1), V5), ?_, !hold n E t (pmv p v i), V5, rfl, r5, fun z o ho h2 ho2 => ?_, fun z => ⟨i, hi, by omega, ha, by simpa using z⟩⟩
          · unfold J_311_100_j192
            rw [nI_1]
          · by_cases y : o = i
            · subst y; simpa using z
            · exact hf rfl o (by omega) h2 ho2
  · rintro s ⟨b, V, rfl, rV, hf, htr⟩
    refine ⟨(bI b, V), ?_, b, V, rfl, rV, hf, htr⟩
    rw [G_311_100]
    dsimp only
    rw [rV.many x, Option.bind_some, if_pos (nI_le (Nat.le_refl _) (by omega))]
end RH
