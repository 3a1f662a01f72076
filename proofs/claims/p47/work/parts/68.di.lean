/-! ===== THE YARD'S DISTANCES ===== -/
def DM (m : Nat → Option AC) (T n : Nat) (D : Nat → Nat → Nat) : Prop := (∃ er, m T = some (.inl (7, n, .inr (.inr (.inr (.inr er))))) ∧ ∀ v, v < n → er v = some (T + 1 + v)) ∧ ∀ v, v < n → ∃ f, m (T + 1 + v) = some (.inl (0, n, .inl f)) ∧ ∀ o, o < n → f o = nI (D v o)
def ud (D : Nat → Nat → Nat) (u v k : Nat) : Nat → Nat → Nat := fun x y => if x = u ∧ y = v then k else D x y
/-- the rows at T are D; what lies before is as it was -/
def DI (X W : Wd) (T n : Nat) (D : Nat → Nat → Nat) : Prop := DM W.cl T n D ∧ (∀ b, b < T → W.cl b = X.cl b) ∧ Sm X W ∧ Co 7 42 X W
section DIS
variable {X W : Wd} {T n : Nat} {D : Nat → Nat → Nat}
theorem DM.row (h : DM W.cl T n D) (hn : n ≤ 6) {v : Nat} (hv : v < n) : W.aR T (nI v) = some (T + 1 + v) := by
  obtain ⟨⟨er, h1, h2⟩, -⟩ := h
  exact aR_ h1 (by decide) hv (by omega) (h2 v hv)
theorem DM.get (h : DM W.cl T n D) (hn : n ≤ 6) {v o : Nat} (hv : v < n) (ho : o < n) : W.aI (T + 1 + v) (nI o) = some (nI (D v o)) := by
  obtain ⟨-, h2⟩ := h
  obtain ⟨f, h3, h4⟩ := h2 v hv
  rw [aI_ h3 ho (by omega), h4 o ho]
theorem DI.put (h : DI X W T n D) (hn : n ≤ 6) {u v : Nat} (hu : u < n) (hv : v < n) (k : Nat) : ∃ W', W.sI (T + 1 + u) (nI v) (nI k) = some W' ∧ DI X W' T n (ud D u v k) := by
  obtain ⟨⟨⟨er, h1, h2⟩, h3⟩, h4, h5, h6⟩ := h
  obtain ⟨f, h7, h8⟩ := h3 u hu
  obtain ⟨W', e, q⟩ := sI_ h7 hv (by omega) (nI k)
  refine ⟨W', e, ⟨⟨er, by rw [q.1, upm_n (by omega)]; exact h1, h2⟩, fun x hx => ?_⟩, fun b hb => by rw [q.1, upm_n (by omega)]; exact h4 b hb, h5.tr q.sm, (h6.tr q.co).up (by decide) (by decide)⟩
  by_cases hxu : x = u
  · subst hxu
    refine ⟨_, by rw [q.1]; exact upm_s, fun o ho => ?_⟩
    unfold ud
    by_cases hov : o = v
    · subst hov; rw [pk_us, if_pos ⟨rfl, rfl⟩]
    · rw [pk_un hov, if_neg (fun z => hov z.2)]; exact h8 o ho
  · obtain ⟨g, g1, g2⟩ := h3 x hx
    refine ⟨g, by rw [q.1, upm_n (by omega)]; exact g1, fun o ho => ?_⟩
    unfold ud
    rw [if_neg (fun z => hxu z.1)]
    exact g2 o ho
theorem DI.cong {D' : Nat → Nat → Nat} (h : DI X W T n D) (e : ∀ x y, x < n → y < n → D' x y = D x y) : DI X W T n D' := by
  obtain ⟨⟨h1, h3⟩, h4⟩ := h
  refine ⟨⟨h1, fun v hv => ?_⟩, h4⟩
  obtain ⟨f, f1, f2⟩ := h3 v hv
  exact ⟨f, f1, fun o ho => by rw [f2 o ho, e v o hv ho]⟩
end DIS
section DIY
variable {w : Nat → Nat} {X : Wd} {a T : Nat} {Q : Ps}
/-- what the rounds need of the yard: it lies before the rows -/
def YT (w : Nat → Nat) (X : Wd) (a T : Nat) (Q : Ps) : Prop := ∃ e p st kn ff kf, X.cl a = some (yo Q.n e p Q.mc st kn kf ff) ∧ YE w X.cl a e Q.n Q.E ∧ Q.n ≤ 6 ∧ X.top ≤ T
theorem YT.n6 (h : YT w X a T Q) : Q.n ≤ 6 := by
  obtain ⟨_, _, _, _, _, _, _, _, h5, _⟩ := h
  exact h5
theorem YT.many {W : Wd} {n : Nat} {D : Nat → Nat → Nat} (h : YT w X a T Q) (k : DI X W T n D) : W.gI a 7 0 = some (nI Q.n) := by
  obtain ⟨e, p, st, kn, ff, kf, h1, -, -, h4⟩ := h
  exact yMany (by rw [k.2.1 a (by have := cl_lt h1; omega)]; exact h1)
theorem YT.edge {W : Wd} {n : Nat} {D : Nat → Nat → Nat} (h : YT w X a T Q) (k : DI X W T n D) {u v : Nat} (hu : u < Q.n) (hv : v < Q.n) : ∃ e r, W.gR a 7 1 = some e ∧ W.aR e (nI u) = some r ∧ W.aB r (nI v) = some (bI (ad Q.E u v)) := by
  obtain ⟨e, p, st, kn, ff, kf, h1, h3, h5, h6⟩ := h
  have hk : Kq (fun _ => True) w w X.cl W.cl a := fun b c hb ho _ => ⟨by rw [k.2.1 b (by have := cl_lt hb; omega)]; exact hb, ho⟩
  obtain ⟨r, f, e1, -, -, e2⟩ := yRow (YM.ext h3 hk trivial trivial) h5 hu
  exact ⟨e, r, yEdge (by rw [k.2.1 a (by have := cl_lt h1; omega)]; exact h1), e1, e2 v hv⟩
theorem d306_25 (h : YT w X a T Q) {u : Nat} (hu : u < Q.n) {W : Wd} {D : Nat → Nat → Nat} (k : DI X W T Q.n D) : ∃ W', lw (G_306_25 a T (nI u)) 200000 (0, W) = some W' ∧ DI X W' T Q.n (fun x y => if x = u then d0 Q.E u y else D x y) := by
  have hn := h.n6
  refine lw_for (n := Q.n) (fun i st => ∃ V, st = (nI i, V) ∧ DI X V T Q.n (fun x y => if x = u ∧ y < i then d0 Q.E u y else D x y)) ?_ ?_ ⟨W, rfl, k.cong fun x y _ _ => if_neg (fun z => Nat.not_lt_zero _ z.2)⟩ (by omega)
  · rintro i st hi ⟨V, rfl, kV⟩
    left
    obtain ⟨V', e1, kV'⟩ := kV.put hn hu hi (d0 Q.E u i)
    refine ⟨(nI (i + 1), V'), ?_, V', rfl, kV'.cong fun x y hx hy => ?_⟩
    · obtain ⟨e, r, g1, g2, g3⟩ := h.edge kV hu hi
      simp only [G_306_25]
      rw [h.many kV, Option.bind_some, if_neg (nI_ge hi (by omega)), kV.1.row hn hu, Option.bind_some]
      by_cases hui : u = i
      · subst hui
        rw [if_neg (fun z => z rfl)]
        unfold J_306_25_j63
        rw [show d0 Q.E u u = 0 from d0_self _ _] at e1
        rw [show (0 : Int32) = nI 0 from rfl, e1, Option.bind_some, nI_1]
      · rw [if_pos (show ¬ nI u = nI i by rw [nI_eq (by omega) (by omega)]; exact hui), g1, Option.bind_some, g2, Option.bind_some, g3, Option.bind_some]
        unfold d0 at e1
        rw [if_neg hui] at e1
        cases hq : ad Q.E u i with
        | true =>
          rw [hq, if_pos rfl] at e1
          rw [if_neg (by decide)]
          unfold J_306_25_j63
          rw [show (1 : Int32) = nI 1 from rfl, e1, Option.bind_some, nI_add]
        | false =>
          rw [hq, if_neg (by decide)] at e1
          rw [if_pos (by decide)]
          unfold J_306_25_j63
          rw [show (99 : Int32) = nI 99 from rfl, e1, Option.bind_some, nI_1]
    · unfold ud
      by_cases q : x = u ∧ y = i
      · rw [if_pos q, if_pos ⟨q.1, by omega⟩, q.2]
      · rw [if_neg q]
        dsimp only
        by_cases q2 : x = u ∧ y < i
        · rw [if_pos q2, if_pos ⟨q2.1, by omega⟩]
        · rw [if_neg q2, if_neg (by omega)]
  · rintro st ⟨V, rfl, kV⟩
    refine ⟨V, ?_, kV.cong fun x y hx hy => ?_⟩
    · simp only [G_306_25]
      rw [h.many kV, Option.bind_some, if_pos (nI_le (Nat.le_refl _) (by omega))]
    · try dsimp only
      by_cases q : x = u
      · rw [if_pos q, if_pos ⟨q, hy⟩]
      · rw [if_neg q, if_neg (fun z => q z.1)]
theorem d306_15 (h : YT w X a T Q) {W : Wd} {D : Nat → Nat → Nat} (k : DI X W T Q.n D) : ∃ W', lw (G_306_15 a T) 200000 (0, W) = some W' ∧ DI X W' T Q.n (d0 Q.E) := by
  have hn := h.n6
  refine lw_for (n := Q.n) (fun i st => ∃ V, st = (nI i, V) ∧ DI X V T Q.n (fun x y => if x < i then d0 Q.E x y else D x y)) ?_ ?_ ⟨W, rfl, k.cong fun x y _ _ => if_neg (Nat.not_lt_zero _)⟩ (by omega)
  · rintro i st hi ⟨V, rfl, kV⟩
    left
    obtain ⟨V', e1, kV'⟩ := d306_25 h hi kV
    refine ⟨(nI (i + 1), V'), ?_, V', rfl, kV'.cong fun x y hx hy => ?_⟩
    · simp only [G_306_15]
      rw [h.many kV, Option.bind_some, if_neg (nI_ge hi (by omega)), e1, Option.bind_some, nI_1]
    · try dsimp only
      by_cases q : x = i
      · subst q; rw [if_pos rfl, if_pos (by omega)]
      · rw [if_neg q]
        by_cases q2 : x < i
        · rw [if_pos q2, if_pos (by omega)]
        · rw [if_neg q2, if_neg (by omega)]
  · rintro st ⟨V, rfl, kV⟩
    refine ⟨V, ?_, kV.cong fun x y hx hy => (if_pos hx).symm⟩
    simp only [G_306_15]
    rw [h.many kV, Option.bind_some, if_pos (nI_le (Nat.le_refl _) (by omega))]
/-- one round: entries before the place are done -/
def rp (k : Nat) (D : Nat → Nat → Nat) (u i : Nat) : Nat → Nat → Nat := fun x y => if x < u ∨ (x = u ∧ y < i) then rl k D x y else D x y
theorem rp_row {k u i : Nat} {D : Nat → Nat → Nat} (h0 : D k k = 0) (y : Nat) : rp k D u i k y = D k y := by
  unfold rp rl
  split
  · omega
  · rfl
theorem rp_col {k u i : Nat} {D : Nat → Nat → Nat} (h0 : D k k = 0) (x : Nat) : rp k D u i x k = D x k := by
  unfold rp rl
  split
  · omega
  · rfl
theorem d306_99 (h : YT w X a T Q) {u k : Nat} (hu : u < Q.n) (hk : k < Q.n) {W : Wd} {D : Nat → Nat → Nat} (h0 : D k k = 0) (h9 : ∀ x y, D x y ≤ 99) (kW : DI X W T Q.n (rp k D u 0)) : ∃ W', lw (G_306_99 a T (nI k) (nI u)) 200000 (0, W) = some W' ∧ DI X W' T Q.n (rp k D (u + 1) 0) := by
  have hn := h.n6
  refine lw_for (n := Q.n) (fun i st => ∃ V, st = (nI i, V) ∧ DI X V T Q.n (rp k D u i)) ?_ ?_ ⟨W, rfl, kW⟩ (by omega)
  · rintro i st hi ⟨V, rfl, kV⟩
    left
    obtain ⟨V', e1, kV'⟩ := kV.put hn hu hi (rl k D u i)
    refine ⟨(nI (i + 1), V'), ?_, V', rfl, kV'.cong fun x y hx hy => ?_⟩
    · have v1 : rp k D u i u i = D u i := by unfold rp; rw [if_neg (by omega)]
      have a1 := h9 u i
      have a2 := h9 u k
      have a3 := h9 k i
      simp only [G_306_99]
      rw [h.many kV, Option.bind_some, if_neg (nI_ge hi (by omega)), kV.1.row hn hu, Option.bind_some, Option.bind_some, kV.1.get hn hu hi, Option.bind_some, Option.bind_some, kV.1.get hn hu hk, Option.bind_some, kV.1.row hn hk, Option.bind_some, kV.1.get hn hk hi, Option.bind_some, v1, rp_col h0, rp_row h0, nI_add, imn_n (by omega) (by omega)]
      rw [show min (D u i) (D u k + D k i) = rl k D u i from rfl, e1, Option.bind_some, nI_1]
    · unfold ud
      by_cases q : x = u ∧ y = i
      · rw [if_pos q, q.1, q.2]
        unfold rp
        rw [if_pos (by omega)]
      · rw [if_neg q]
        unfold rp
        by_cases q2 : x < u ∨ (x = u ∧ y < i)
        · rw [if_pos q2, if_pos (by omega)]
        · rw [if_neg q2, if_neg (by omega)]
  · rintro st ⟨V, rfl, kV⟩
    refine ⟨V, ?_, kV.cong fun x y hx hy => ?_⟩
    · simp only [G_306_99]
      rw [h.many kV, Option.bind_some, if_pos (nI_le (Nat.le_refl _) (by omega))]
    · unfold rp
      by_cases q2 : x < u ∨ (x = u ∧ y < Q.n)
      · rw [if_pos q2, if_pos (by omega)]
      · rw [if_neg q2, if_neg (by omega)]
theorem d306_88 (h : YT w X a T Q) {k : Nat} (hk : k < Q.n) {W : Wd} {D : Nat → Nat → Nat} (h0 : D k k = 0) (h9 : ∀ x y, D x y ≤ 99) (kW : DI X W T Q.n D) : ∃ W', lw (G_306_88 a T (nI k)) 200000 (0, W) = some W' ∧ DI X W' T Q.n (rl k D) := by
  have hn := h.n6
  refine lw_for (n := Q.n) (fun i st => ∃ V, st = (nI i, V) ∧ DI X V T Q.n (rp k D i 0)) ?_ ?_ ⟨W, rfl, kW.cong fun x y _ _ => by unfold rp; rw [if_neg (by omega)]⟩ (by omega)
  · rintro i st hi ⟨V, rfl, kV⟩
    left
    obtain ⟨V', e1, kV'⟩ := d306_99 h hi hk h0 h9 kV
    refine ⟨(nI (i + 1), V'), ?_, V', rfl, kV'⟩
    simp only [G_306_88]
    rw [h.many kV, Option.bind_some, if_neg (nI_ge hi (by omega)), e1, Option.bind_some, nI_1]
  · rintro st ⟨V, rfl, kV⟩
    refine ⟨V, ?_, kV.cong fun x y hx hy => ?_⟩
    · simp only [G_306_88]
      rw [h.many kV, Option.bind_some, if_pos (nI_le (Nat.le_refl _) (by omega))]
    · unfold rp
      rw [if_pos (.inl hx)]
theorem d306_78 (h : YT w X a T Q) {W : Wd} (kW : DI X W T Q.n (d0 Q.E)) : ∃ W', lw (G_306_78 a T) 200000 (0, W) = some W' ∧ DI X W' T Q.n (fw (d0 Q.E) Q.n) := by
  have hn := h.n6
  refine lw_for (n := Q.n) (fun i st => ∃ V, st = (nI i, V) ∧ DI X V T Q.n (fw (d0 Q.E) i)) ?_ ?_ ⟨W, rfl, kW⟩ (by omega)
  · rintro i st hi ⟨V, rfl, kV⟩
    left
    obtain ⟨V', e1, kV'⟩ := d306_88 h hi (fw_self (d0_self Q.E) i i) (fw_99 Q.E i) kV
    refine ⟨(nI (i + 1), V'), ?_, V', rfl, kV'⟩
    simp only [G_306_78]
    rw [h.many kV, Option.bind_some, if_neg (nI_ge hi (by omega)), e1, Option.bind_some, nI_1]
  · rintro st ⟨V, rfl, kV⟩
    refine ⟨V, ?_, kV⟩
    simp only [G_306_78]
    rw [h.many kV, Option.bind_some, if_pos (nI_le (Nat.le_refl _) (by omega))]
end DIY
/-- the yard's distances: new rows behind all that was -/
theorem yDist {w : Nat → Nat} {W : Wd} {a : Nat} {Q : Ps} (h : Yd w W.cl a Q) (hn : Q.n ≤ 6) (ht : W.top < 880000) : ∃ W', F_306 W a = some (W.top, W') ∧ DI W W' W.top Q.n (fw (d0 Q.E) Q.n) := by
  obtain ⟨e, p, st, kn, ff, kf, h1, h2, h3, h4, h5, h6⟩ := h
  obtain ⟨X, e1, k1⟩ := nM_ (W := W) (t := 7) (n := Q.n) (k := Q.n) (by omega) (by omega) (by omega)
  have yt : YT w W a W.top Q := ⟨e, p, st, kn, ff, kf, h1, h3, hn, Nat.le_refl _⟩
  have hs : Q.n * Q.n ≤ 6 * 6 := Nat.mul_le_mul hn hn
  have di : DI W X W.top Q.n (fun _ _ => 0) := by
    refine ⟨⟨⟨fun j => if j < Q.n then some (W.top + 1 + j) else none, ?_, fun v hv => if_pos hv⟩, fun v hv => ⟨fun _ => 0, ?_, fun o ho => rfl⟩⟩, fun b hb => by rw [k1.1, if_neg (by omega)], k1.2.1, ?_⟩
    · have q := k1.new 0
      rw [Nat.add_zero] at q
      exact q
    · have q := k1.new (1 + v)
      rw [← Nat.add_assoc] at q
      rw [q, Nat.add_comm 1 v, List.getElem?_cons_succ, am_rows, List.getElem?_replicate, if_pos hv]
    · have q := k1.co
      rw [List.length_cons, am_rows, List.length_replicate] at q
      exact q.up (by omega) (by omega)
  obtain ⟨Y, e2, k2⟩ := d306_15 yt di
  obtain ⟨Z, e3, k3⟩ := d306_78 yt k2
  refine ⟨Z, ?_, k3⟩
  unfold F_306
  rw [yMany h1, Option.bind_some, Option.bind_some, e1, Option.bind_some]
  dsimp only
  rw [e2, Option.bind_some, e3, Option.bind_some, rp_ (show W.top < am_SB by have : am_SB = 1000000 := rfl; omega), Option.bind_some]
