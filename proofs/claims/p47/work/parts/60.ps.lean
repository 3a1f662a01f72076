/-! ===== POSITIONS, the class's board and history ===== -/
/-- vertices, edges, piles, moves, strategies: how many, targets, weights, parents -/
def Ps : Type := Nat × Nat × (Nat → Nat) × Int32 × Nat × (Nat → Nat) × (Nat → Nat → Nat) × (Nat → Nat → Option Nat)
def Ps.n (Q : Ps) : Nat := Q.1
def Ps.E (Q : Ps) : Nat := Q.2.1
def Ps.pl (Q : Ps) : Nat → Nat := Q.2.2.1
def Ps.mc (Q : Ps) : Int32 := Q.2.2.2.1
def Ps.sc (Q : Ps) : Nat := Q.2.2.2.2.1
def Ps.tg (Q : Ps) : Nat → Nat := Q.2.2.2.2.2.1
def Ps.wt (Q : Ps) : Nat → Nat → Nat := Q.2.2.2.2.2.2.1
def Ps.pr (Q : Ps) : Nat → Nat → Option Nat := Q.2.2.2.2.2.2.2
def mP (n E : Nat) (pl : Nat → Nat) (mc : Int32) (sc : Nat) (tg : Nat → Nat) (wt : Nat → Nat → Nat) (pr : Nat → Nat → Option Nat) : Ps := (n, E, pl, mc, sc, tg, wt, pr)
def BQ (Q : Ps) (B : Bd) : Prop := CB Q.n Q.E B ∧ CP Q.pl B ∧ CS Q.n Q.sc Q.tg Q.wt Q.pr B ∧ CD Q.n Q.E B ∧ B.moveCount = Q.mc
def VQ (Q : Ps) : Prop := Gr Q.n Q.E ∧ Cn Q.n Q.E ∧ SO Q.n Q.sc Q.tg Q.wt Q.pr ∧ ∀ v, v < 6 → Q.pl v ≤ 999
/-- a copy of a board is as good -/
theorem c2q (B O : Bd) : ∃ B', F_2 B O = some B' ∧ ∀ Q, VQ Q → BQ Q O → BQ Q B' := by
  refine ⟨_, rfl, fun Q hV k => ?_⟩
  obtain ⟨a9, -, a11, -⟩ := hV
  obtain ⟨a1, a2, a3, a4, a5⟩ := k
  have h6 := a9.2.1
  have s6 := a11.1
  refine ⟨⟨a1.1, a1.2⟩, fun v hv => ?_, ⟨a3.1, fun k hk => ⟨?_, fun v hv => ⟨?_, ?_⟩⟩⟩, fun u v hu hv => ?_, a5⟩
  · show va_cpy O.pile B.pile 0 0 6 v = _
    unfold va_cpy
    rw [if_pos ⟨Nat.zero_le _, by omega⟩, Nat.zero_add, Nat.sub_zero]
    exact a2 v hv
  · show va_cpy O.targets B.targets 0 0 6 k = _
    unfold va_cpy
    rw [if_pos ⟨Nat.zero_le _, by omega⟩, Nat.zero_add, Nat.sub_zero]
    exact (a3.2 k hk).1
  · show va_cpy O.weights B.weights 0 0 36 (6 * k + v) = _
    unfold va_cpy
    rw [if_pos ⟨Nat.zero_le _, by omega⟩, Nat.zero_add, Nat.sub_zero]
    exact ((a3.2 k hk).2 v hv).1
  · show va_cpy O.parents B.parents 0 0 36 (6 * k + v) = _
    unfold va_cpy
    rw [if_pos ⟨Nat.zero_le _, by omega⟩, Nat.zero_add, Nat.sub_zero]
    exact ((a3.2 k hk).2 v hv).2
  · show va_cpy O.distances B.distances 0 0 36 (6 * u + v) = _
    unfold va_cpy
    rw [if_pos ⟨Nat.zero_le _, by omega⟩, Nat.zero_add, Nat.sub_zero]
    exact a4 u v hu hv
/-- what a copy into the history leaves as it was -/
def KP (c k : Nat) (W W' : Wd) : Prop := W'.pp = W.pp ∧ W'.board = W.board ∧ W'.saved = W.saved ∧ W'.inp = W.inp ∧ W'.fps = W.fps ∧ W'.cl = W.cl ∧ (∀ b, W'.fp b = W.fp b) ∧ Co c k W W'
theorem KP.rf (W : Wd) : KP 0 0 W W := ⟨rfl, rfl, rfl, rfl, rfl, rfl, fun _ => rfl, Co.rf W⟩
theorem KP.tr {a b c d : Nat} {X Y Z : Wd} (h : KP a b X Y) (k : KP c d Y Z) : KP (a + c) (b + d) X Z := by
  obtain ⟨a1, a2, a3, a4, a5, a6, a7, a8⟩ := h
  obtain ⟨b1, b2, b3, b4, b5, b6, b7, b8⟩ := k
  exact ⟨b1.trans a1, b2.trans a2, b3.trans a3, b4.trans a4, b5.trans a5, b6.trans a6, fun b => (b7 b).trans (a7 b), a8.tr b8⟩
theorem KP.up {a b c d : Nat} {X Y : Wd} (h : KP a b X Y) (h1 : a ≤ c) (h2 : b ≤ d) : KP c d X Y := ⟨h.1, h.2.1, h.2.2.1, h.2.2.2.1, h.2.2.2.2.1, h.2.2.2.2.2.1, h.2.2.2.2.2.2.1, h.2.2.2.2.2.2.2.up h1 h2⟩
theorem KP.fc {c k : Nat} {W W' : Wd} (h : KP c k W W') (q : FC W) : FC W' := by
  obtain ⟨a1, a2, a3, a4, a5, a6, a7, a8⟩ := h
  intro t a ht ha
  rw [a5] at ha
  obtain ⟨P, p1, p2⟩ := q t a ht ha
  exact ⟨P, by rw [a7]; exact p1, p2⟩
theorem KP.hist (W : Wd) (h : Hs) : KP 0 0 W (W.w_hist h) := ⟨rfl, rfl, rfl, rfl, rfl, cl_dyn rfl, fun b => fp_dyn rfl b, Nat.le_refl _, Nat.le_refl _, Nat.le_refl _⟩
/-- the copying itself, into a board that is there -/
theorem c50k {W : Wd} {a k : Nat} {P : Bd} (h : W.bd a = some P) (hz : W.hist.size = nI k) : ∃ W' B', J_50_0_j71 W a = some W' ∧ W'.hist.ring = W.hist.ring ∧ W'.hist.oldest = W.hist.oldest ∧ W'.hist.size = nI (k + 1) ∧ (∀ b, W'.bd b = if b = a then some B' else W.bd b) ∧ (∀ Q, VQ Q → BQ Q W.board → BQ Q B') ∧ KP 0 0 W W' := by
  obtain ⟨B', e, q⟩ := c2q P W.board
  obtain ⟨V, hV⟩ : ∃ V, W.sbd a B' = V := ⟨_, rfl⟩
  have v4 : V.hist = W.hist := by subst hV; rfl
  have v6 : KP 0 0 W V := by
    subst hV
    exact ⟨rfl, rfl, rfl, rfl, rfl, sbd_cl h, fun b => sbd_fpe h b, Nat.le_refl _, Nat.le_refl _, by rw [sbd_top h]; exact Nat.le_refl _⟩
  obtain ⟨X, hX⟩ : ∃ X, V.w_hist (V.hist.w_size (V.hist.size + 1)) = X := ⟨_, rfl⟩
  have x0 : X.dyn = V.dyn := by subst hX; rfl
  have x1 : X.hist = V.hist.w_size (V.hist.size + 1) := by subst hX; rfl
  have x2 : KP 0 0 V X := by subst hX; exact KP.hist V _
  refine ⟨X, B', ?_, ?_, ?_, ?_, fun b => by rw [bd_dyn x0, ← hV]; exact sbd_bd h b, q, v6.tr x2⟩
  · unfold J_50_0_j71
    rw [h, Option.bind_some, e, Option.bind_some, hV, Option.bind_some, Option.bind_some, hX]
    rfl
  · rw [x1, v4]; rfl
  · rw [x1, v4]; rfl
  · rw [x1, v4]; show W.hist.size + 1 = _; rw [hz, z1, nI_add]
/-- the place behind the newest -/
theorem c50j {W : Wd} {k o : Nat} (hz : W.hist.size = nI k) (hk : k < 10) (ho : W.hist.oldest = nI o) (ho10 : o < 10) (val : ∀ i a, i < 10 → W.hist.ring i = some a → ∃ B, W.bd a = some B) (inj : ∀ i j a, i < 10 → j < 10 → W.hist.ring i = some a → W.hist.ring j = some a → i = j) (hd : W.top < 900000) :
    ∃ W' a B', J_50_0_j32 W = some W' ∧ W'.hist.size = nI (k + 1) ∧ W'.hist.oldest = nI o ∧ W'.hist.ring = va_up W.hist.ring ((o + k) % 10) (some a) ∧ (∀ i, i < 10 → ¬ i = (o + k) % 10 → ¬ W.hist.ring i = some a) ∧ W'.bd a = some B' ∧ (∀ Q, VQ Q → BQ Q W.board → BQ Q B') ∧ (∀ b B, ¬ b = a → W.bd b = some B → W'.bd b = some B) ∧ KP 6 129 W W' := by
  have hs : (o + k) % 10 < 10 := Nat.mod_lt _ (by decide)
  have hi : ix ((W.hist.oldest + W.hist.size) - (W.hist.oldest + W.hist.size) / 10 * 10) 10 = some ((o + k) % 10) := by
    rw [ho, hz, nI_add, show (10 : Int32) = nI 10 from rfl, pk_rem (by omega) (by decide) (by decide)]
    exact ixn hs (by decide)
  cases hr : W.hist.ring ((o + k) % 10) with
  | some a =>
    obtain ⟨P, hP⟩ := val _ a hs hr
    obtain ⟨W', B', e, q1, q2, q3, q4, q5, q7⟩ := c50k hP hz
    refine ⟨W', a, B', ?_, q3, q2.trans ho, ?_, fun i hi hne hq => hne (inj i _ a hi hs hq hr), by rw [q4, if_pos rfl], q5, fun b B h1 h2 => by rw [q4, if_neg h1]; exact h2, q7.up (by omega) (by omega)⟩
    · unfold J_50_0_j32
      rw [hi, Option.bind_some, hr, oq_s, hP, Option.bind_some, e]
    · rw [q1]
      funext i
      unfold va_up
      split
      · next h => rw [h, hr]
      · rfl
  | none =>
    obtain ⟨V, hV⟩ : ∃ V, W.pushB = V := ⟨_, rfl⟩
    have v0 : V.hist = W.hist := by subst hV; rfl
    have v1 : V.bd W.top = some Bd.zero := by subst hV; rw [pushB_bde hd, if_pos rfl]
    have v2 : KP 6 129 W V := by subst hV; exact ⟨rfl, rfl, rfl, rfl, rfl, pushB_cl hd, fun b => pushB_fpe hd b, Co.pushB W⟩
    obtain ⟨X, hX⟩ : ∃ X, V.w_hist (V.hist.w_ring (va_up V.hist.ring ((o + k) % 10) (some W.top))) = X := ⟨_, rfl⟩
    have x0 : X.dyn = V.dyn := by subst hX; rfl
    have x1 : X.hist = W.hist.w_ring (va_up W.hist.ring ((o + k) % 10) (some W.top)) := by rw [← v0]; subst hX; rfl
    have x2 : X.bd W.top = some Bd.zero := by rw [bd_dyn x0]; exact v1
    have x3 : X.hist.size = nI k := by rw [x1]; exact hz
    have x4 : KP 0 0 V X := by subst hX; exact KP.hist V _
    obtain ⟨W', B', e, q1, q2, q3, q4, q5, q7⟩ := c50k x2 x3
    have nt : ∀ b B, W.bd b = some B → ¬ b = W.top := fun b B hb q => by
      have := (at_lt (at_bd hb)).2.2
      have := dsz_pos (Sum.inl B : Dy)
      omega
    have vb : ∀ b B, W.bd b = some B → X.bd b = some B := fun b B hb => by rw [bd_dyn x0, ← hV, pushB_bde hd, if_neg (nt b B hb)]; exact hb
    have hfr : ∀ i, i < 10 → ¬ W.hist.ring i = some W.top := fun i hi hq => by
      obtain ⟨B, hB⟩ := val i _ hi hq
      exact nt _ B hB rfl
    refine ⟨W', W.top, B', ?_, q3, ?_, ?_, fun i hi _ => hfr i hi, by rw [q4, if_pos rfl], fun Q hV' hR => q5 Q hV' ?_, fun b B h1 h2 => by rw [q4, if_neg h1]; exact vb b B h2, (v2.tr (x4.tr q7)).up (by omega) (by omega)⟩
    · unfold J_50_0_j32
      rw [hi, Option.bind_some, hr, oq_none, if_pos hd, Option.bind_some, hV, v1, Option.bind_some, Option.bind_some, Option.bind_some, Option.bind_some, hX, e]
    · rw [q2, x1]; exact ho
    · rw [q1, x1]; rfl
    · have : X.board = W.board := by subst hX; subst hV; rfl
      rw [this]; exact hR
theorem c50 {W : Wd} {k o : Nat} (hz : W.hist.size = nI k) (hk : k ≤ 10) (ho : W.hist.oldest = nI o) (ho10 : o < 10) (val : ∀ i a, i < 10 → W.hist.ring i = some a → ∃ B, W.bd a = some B) (inj : ∀ i j a, i < 10 → j < 10 → W.hist.ring i = some a → W.hist.ring j = some a → i = j) (hd : W.top < 900000) :
    ∃ W' s a B', F_50 W = some W' ∧ (s = if k = 10 then 1 else 0) ∧ W'.hist.size = nI (k - s + 1) ∧ W'.hist.oldest = nI ((o + s) % 10) ∧ W'.hist.ring = va_up W.hist.ring ((o + k) % 10) (some a) ∧ (∀ i, i < 10 → ¬ i = (o + k) % 10 → ¬ W.hist.ring i = some a) ∧ W'.bd a = some B' ∧ (∀ Q, VQ Q → BQ Q W.board → BQ Q B') ∧ (∀ b B, ¬ b = a → W.bd b = some B → W'.bd b = some B) ∧ KP 6 129 W W' := by
  by_cases h : k = 10
  · subst h
    obtain ⟨X, hX⟩ : ∃ X, W.w_hist (W.hist.w_oldest (nI ((o + 1) % 10))) = X := ⟨_, rfl⟩
    have x0 : X.dyn = W.dyn := by subst hX; rfl
    have x1 : X.hist = W.hist.w_oldest (nI ((o + 1) % 10)) := by subst hX; rfl
    have x2 : KP 0 0 W X := by subst hX; exact KP.hist W _
    obtain ⟨Y, hY⟩ : ∃ Y, X.w_hist (X.hist.w_size (X.hist.size - 1)) = Y := ⟨_, rfl⟩
    have y0 : Y.dyn = W.dyn := by subst hY; exact x0
    have y1 : Y.hist.ring = W.hist.ring := by subst hY; show X.hist.ring = _; rw [x1]; rfl
    have y2 : Y.hist.size = nI 9 := by subst hY; show X.hist.size - 1 = _; rw [x1]; show W.hist.size - 1 = _; rw [hz]; rfl
    have y3 : Y.hist.oldest = nI ((o + 1) % 10) := by subst hY; show X.hist.oldest = _; rw [x1]; rfl
    have y4 : KP 0 0 X Y := by subst hY; exact KP.hist X _
    obtain ⟨W', a, B', e, q1, q2, q3, q4, q5, q6, q7, q8⟩ := c50j (W := Y) y2 (by decide) y3 (Nat.mod_lt _ (by decide)) (fun i a hi ha => by rw [y1] at ha; rw [bd_dyn y0]; exact val i a hi ha) (fun i j a hi hj h1 h2 => by rw [y1] at h1 h2; exact inj i j a hi hj h1 h2) (by rw [top_dyn y0]; exact hd)
    have hsl : ((o + 1) % 10 + 9) % 10 = (o + 10) % 10 := by omega
    rw [hsl, y1] at q3 q4
    refine ⟨W', 1, a, B', ?_, rfl, q1, q2, q3, q4, q5, fun Q hV hR => q6 Q hV ?_, fun b B h1 h2 => q7 b B h1 (by rw [bd_dyn y0]; exact h2), (x2.tr (y4.tr q8)).up (by omega) (by omega)⟩
    · unfold F_50
      have e2 : (W.hist.oldest + 1) - (W.hist.oldest + 1) / 10 * 10 = nI ((o + 1) % 10) := by
        rw [ho, z1, nI_add, show (10 : Int32) = nI 10 from rfl, pk_rem (by omega) (by decide) (by decide)]
      rw [if_neg (by rw [hz]; decide), e2, Option.bind_some, Option.bind_some, hX, Option.bind_some, hY, Option.bind_some]
      exact e
    · have : Y.board = W.board := by subst hY; subst hX; rfl
      rw [this]; exact hR
  · obtain ⟨W', a, B', e, q1, q2, q⟩ := c50j hz (show k < 10 by omega) ho ho10 val inj hd
    refine ⟨W', 0, a, B', ?_, by rw [if_neg h], q1, by rw [q2, Nat.add_zero, Nat.mod_eq_of_lt ho10], q⟩
    unfold F_50
    rw [if_pos (by rw [hz, show (10 : Int32) = nI 10 from rfl, nI_eq (by omega) (by decide)]; exact h), e]
/-- the history holds these positions, the oldest first -/
def HH (h : Hs) (bd : Nat → Option Bd) (l : List Ps) : Prop := ∃ o, l.length ≤ 10 ∧ o < 10 ∧ h.size = nI l.length ∧ h.oldest = nI o ∧ (∀ i a, i < 10 → h.ring i = some a → ∃ B, bd a = some B) ∧ (∀ i j a, i < 10 → j < 10 → h.ring i = some a → h.ring j = some a → i = j) ∧ ∀ i Q, l[i]? = some Q → VQ Q ∧ ∃ a B, h.ring ((o + i) % 10) = some a ∧ bd a = some B ∧ BQ Q B
/-- one more, the oldest lost where there are ten -/
def hpush (l : List Ps) (Q : Ps) : List Ps := (if l.length = 10 then l.drop 1 else l) ++ [Q]
theorem keep {W : Wd} {l : List Ps} {Q : Ps} (hH : HH W.hist W.bd l) (hV : VQ Q) (hS : BQ Q W.board) (hd : W.top < 900000) : ∃ W', F_50 W = some W' ∧ KP 6 129 W W' ∧ HH W'.hist W'.bd (hpush l Q) := by
  obtain ⟨o, hk, ho, h1, h3, h4, h5, h6⟩ := hH
  obtain ⟨W', s, a, B', e, q0, q1, q2, q3, q4, q5, q6, q7, q8⟩ := c50 h1 hk h3 ho h4 h5 hd
  have hsl : (o + l.length) % 10 < 10 := Nat.mod_lt _ (by decide)
  have sk : s ≤ 1 ∧ (s = 1 → l.length = 10) ∧ (s = 0 → ¬ l.length = 10) := by
    rw [q0]
    split
    · next h => exact ⟨Nat.le_refl _, fun _ => h, fun z => absurd z (by decide)⟩
    · next h => exact ⟨Nat.zero_le _, fun z => absurd z (by decide), fun _ => h⟩
  obtain ⟨s1, s2, s3⟩ := sk
  have hl : hpush l Q = l.drop s ++ [Q] := by
    unfold hpush
    rw [q0]
    split <;> rfl
  have hlen : (hpush l Q).length = l.length - s + 1 := by rw [hl, List.length_append, List.length_drop]; rfl
  have ring : ∀ i b, W'.hist.ring i = some b → (i = (o + l.length) % 10 ∧ b = a) ∨ (¬ i = (o + l.length) % 10 ∧ W.hist.ring i = some b) := by
    intro i b hb
    rw [q3] at hb
    unfold va_up at hb
    split at hb
    · next h => cases hb; exact .inl ⟨h, rfl⟩
    · next h => exact .inr ⟨h, hb⟩
  refine ⟨W', e, q8, (o + s) % 10, by rw [hlen]; omega, Nat.mod_lt _ (by decide), by rw [hlen]; exact q1, q2, fun i b hi hb => ?_, fun i j b hi hj hb1 hb2 => ?_, fun i R hR => ?_⟩
  · rcases ring i b hb with ⟨_, rfl⟩ | ⟨hne, h⟩
    · exact ⟨B', q5⟩
    · obtain ⟨B, hB⟩ := h4 i b hi h
      exact ⟨B, q7 b B (fun z => q4 i hi hne (by rw [h, z])) hB⟩
  · rcases ring i b hb1 with ⟨e1, rfl⟩ | ⟨hne, h⟩
    · rcases ring j b hb2 with ⟨e2, _⟩ | ⟨hne, h⟩
      · omega
      · exact absurd h (q4 j hj hne)
    · rcases ring j b hb2 with ⟨e2, rfl⟩ | ⟨hne2, h'⟩
      · exact absurd h (q4 i hi hne)
      · exact h5 i j b hi hj h h'
  · rw [hl] at hR
    have hi : i < (l.drop s).length + 1 := by
      have := (List.getElem?_eq_some_iff.mp hR).1
      rw [List.length_append] at this
      exact this
    rw [List.length_drop] at hi
    by_cases hik : i = l.length - s
    · rw [List.getElem?_append_right (by rw [List.length_drop]; omega), List.length_drop, hik, Nat.sub_self] at hR
      cases hR
      have hpos : ((o + s) % 10 + (l.length - s)) % 10 = (o + l.length) % 10 := by omega
      refine ⟨hV, a, B', ?_, q5, q6 _ hV hS⟩
      rw [hik, hpos, q3]
      exact if_pos rfl
    · rw [List.getElem?_append_left (by rw [List.length_drop]; omega), List.getElem?_drop] at hR
      obtain ⟨hVR, b, B, b1, b2, b3⟩ := h6 (s + i) R hR
      have hpos : ((o + s) % 10 + i) % 10 = (o + (s + i)) % 10 := by omega
      have hne : ¬ (o + (s + i)) % 10 = (o + l.length) % 10 := by omega
      refine ⟨hVR, b, B, ?_, q7 b B (fun z => q4 _ (Nat.mod_lt _ (by decide)) hne (by rw [b1, z])) b2, b3⟩
      rw [hpos, q3]
      show va_up _ _ _ _ = _
      unfold va_up
      rw [if_neg hne, b1]
/-- the class brings the newest back -/
theorem c51 {W : Wd} {l : List Ps} {Q : Ps} (hH : HH W.hist W.bd (l ++ [Q])) : ∃ W', F_51 W = some W' ∧ BQ Q W'.board ∧ VQ Q ∧ HH W'.hist W'.bd l ∧ W'.pp = W.pp ∧ W'.saved = W.saved ∧ W'.inp = W.inp ∧ W'.fps = W.fps ∧ W'.dyn = W.dyn ∧ W'.kc = W.kc ∧ W'.kn = W.kn := by
  obtain ⟨o, hk, ho, h1, h3, h4, h5, h6⟩ := hH
  have hlen : (l ++ [Q]).length = l.length + 1 := by rw [List.length_append]; rfl
  rw [hlen] at hk h1
  obtain ⟨hV, a, B, hr, hB, hQ⟩ := h6 l.length Q (by rw [List.getElem?_append_right (Nat.le_refl _), Nat.sub_self]; rfl)
  obtain ⟨B', e, q⟩ := c2q W.board B
  obtain ⟨X, hX⟩ : ∃ X, W.w_hist (W.hist.w_size (nI l.length)) = X := ⟨_, rfl⟩
  have x1 : X.hist = W.hist.w_size (nI l.length) := by subst hX; rfl
  have x2 : X.dyn = W.dyn := by subst hX; rfl
  have x3 : X.board = W.board := by subst hX; rfl
  have w1 : (X.w_board B').hist = X.hist := rfl
  have w2 : (X.w_board B').bd = W.bd := by funext b; exact (bd_dyn (X := X.w_board B') (W := W) x2 b)
  refine ⟨X.w_board B', ?_, q Q hV hQ, hV, ?_, ?_, ?_, ?_, ?_, x2, ?_, ?_⟩
  · unfold F_51
    have e1 : W.hist.size - 1 = nI l.length := by rw [h1, z1, pk_sub (by omega), Nat.add_sub_cancel]
    have e2 : X.hist.oldest = nI o := by rw [x1]; exact h3
    have e3 : X.hist.size = nI l.length := by rw [x1]; rfl
    have e4 : X.hist.ring = W.hist.ring := by rw [x1]; rfl
    have hi : ix ((X.hist.oldest + X.hist.size) - (X.hist.oldest + X.hist.size) / 10 * 10) 10 = some ((o + l.length) % 10) := by
      rw [e2, e3, nI_add, show (10 : Int32) = nI 10 from rfl, pk_rem (by omega) (by decide) (by decide)]
      exact ixn (Nat.mod_lt _ (by decide)) (by decide)
    rw [e1, Option.bind_some, Option.bind_some, hX, hi, Option.bind_some, e4, hr, oq_s, bd_dyn x2, hB, Option.bind_some, x3, e, Option.bind_some, Option.bind_some]
    rfl
  · rw [w1, w2, x1]
    refine ⟨o, by omega, ho, rfl, h3, h4, h5, fun i R hR => h6 i R ?_⟩
    rw [List.getElem?_append_left (List.getElem?_eq_some_iff.mp hR).1]
    exact hR
  · subst hX; rfl
  · subst hX; rfl
  · subst hX; rfl
  · subst hX; rfl
  · subst hX; rfl
  · subst hX; rfl
