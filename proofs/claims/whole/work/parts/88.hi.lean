/-! ===== THE HISTORY ===== -/
theorem pushB_fp {W : Wd} {b : Nat} {Q : FP} (h : W.fp b = some Q) : W.pushB.fp b = some Q := by
  obtain ⟨k, k1, k2, k3⟩ := dyx_dyn h
  refine fp_of k1 ?_
  show (W.dyn ++ [.inl Bd.zero])[k]? = _
  rw [List.getElem?_append_left (List.getElem?_eq_some_iff.mp k3).1, k3]
theorem pushB_bd {W : Wd} {b : Nat} {Q : Bd} (h : W.bd b = some Q) : W.pushB.bd b = some Q := by
  obtain ⟨k, k1, k2, k3⟩ := dyx_bd h
  refine bd_of k1 ?_
  show (W.dyn ++ [.inl Bd.zero])[k]? = _
  rw [List.getElem?_append_left (List.getElem?_eq_some_iff.mp k3).1, k3]
theorem pushB_top {W : Wd} (ht : W.dyn.length < 100000) : W.pushB.bd W.top = some Bd.zero := by
  refine bd_of (top_dyx ht) ?_
  show (W.dyn ++ [.inl Bd.zero])[W.dyn.length]? = _
  rw [List.getElem?_append_right (Nat.le_refl _), Nat.sub_self]
  rfl
theorem bd_top {W : Wd} (ht : W.dyn.length < 100000) {a : Nat} {B : Bd} (h : W.bd a = some B) : ¬ a = W.top := by
  intro q
  subst q
  obtain ⟨j, j1, -, j3⟩ := dyx_bd h
  rw [top_dyx ht] at j1
  cases j1
  have := (List.getElem?_eq_some_iff.mp j3).1
  omega
theorem sbd_same {W : Wd} {a : Nat} {P B : Bd} (h : W.bd a = some P) : (W.sbd a B).bd a = some B := by
  obtain ⟨j, h1, h2, h3⟩ := dyx_bd h
  have hj : j < W.dyn.length := (List.getElem?_eq_some_iff.mp h3).1
  refine bd_of h1 ?_
  show (W.dyn.set ((a - 47) / 6) (.inl B))[j]? = _
  rw [h2, List.getElem?_set, if_pos rfl, if_pos hj]
theorem sbd_ne {W : Wd} {a b : Nat} {P B Q : Bd} (h : W.bd a = some P) (hne : ¬ b = a) (hb : W.bd b = some Q) : (W.sbd a B).bd b = some Q := by
  obtain ⟨j, h1, h2, h3⟩ := dyx_bd h
  obtain ⟨k, k1, k2, k3⟩ := dyx_bd hb
  refine bd_of k1 ?_
  show (W.dyn.set ((a - 47) / 6) (.inl B))[k]? = _
  rw [List.getElem?_set, if_neg ?_, k3]
  rw [h2]
  intro q
  subst q
  have := (dyx_some h1).1
  have := (dyx_some k1).1
  omega
theorem sbd_fp {W : Wd} {a b : Nat} {P B : Bd} {Q : FP} (h : W.bd a = some P) (hb : W.fp b = some Q) : (W.sbd a B).fp b = some Q := by
  obtain ⟨j, h1, h2, h3⟩ := dyx_bd h
  obtain ⟨k, k1, k2, k3⟩ := dyx_dyn hb
  refine fp_of k1 ?_
  show (W.dyn.set ((a - 47) / 6) (.inl B))[k]? = _
  rw [List.getElem?_set, if_neg ?_, k3]
  rw [h2]
  intro q
  subst q
  rw [h3] at k3
  cases k3
/-- what a copy into the history leaves as it was -/
def KP (c : Nat) (W W' : Wd) : Prop := W'.pp = W.pp ∧ W'.board = W.board ∧ W'.saved = W.saved ∧ W'.inp = W.inp ∧ W'.ol = W.ol ∧ W'.fps = W.fps ∧ W'.md = W.md ∧ W'.out = W.out ∧ (∀ b Q, W.fp b = some Q → W'.fp b = some Q) ∧ W'.kc ≤ W.kc + 6 * c ∧ W'.kn ≤ W.kn + 1154 * c ∧ W'.dyn.length ≤ W.dyn.length + c
theorem KP.fc {c : Nat} {W W' : Wd} (h : KP c W W') (k : FC W) : FC W' := by
  obtain ⟨a1, a2, a3, a4, a5, a6, a7, a8, a9, a10⟩ := h
  intro t a ht ha
  rw [a6] at ha
  obtain ⟨P, p1, p2⟩ := k t a ht ha
  exact ⟨P, a9 a P p1, p2⟩
/-- the copying itself, into a board that is there -/
theorem c50k {W : Wd} {a k : Nat} {P : Bd} (h : W.bd a = some P) (hz : W.hist.size = nI k) : ∃ W' B', J_50_0_j71 W a = some W' ∧ W'.hist.ring = W.hist.ring ∧ W'.hist.oldest = W.hist.oldest ∧ W'.hist.size = nI (k + 1) ∧ W'.bd a = some B' ∧ (∀ R, SP W.board R → SP B' R) ∧ (∀ b B, ¬ b = a → W.bd b = some B → W'.bd b = some B) ∧ KP 0 W W' := by
  obtain ⟨B', e, q⟩ := c2 P W.board
  obtain ⟨V, hV⟩ : ∃ V, W.sbd a B' = V := ⟨_, rfl⟩
  have v1 : V.bd a = some B' := by subst hV; exact sbd_same h
  have v2 : ∀ b B, ¬ b = a → W.bd b = some B → V.bd b = some B := fun b B h1 h2 => by subst hV; exact sbd_ne h h1 h2
  have v3 : ∀ b Q, W.fp b = some Q → V.fp b = some Q := fun b Q h2 => by subst hV; exact sbd_fp h h2
  have v4 : V.hist = W.hist := by subst hV; rfl
  have v5 : V.dyn.length = W.dyn.length := by subst hV; show (W.dyn.set _ _).length = _; exact List.length_set
  have v6 : KP 0 W V := ⟨by subst hV; rfl, by subst hV; rfl, by subst hV; rfl, by subst hV; rfl, by subst hV; rfl, by subst hV; rfl, by subst hV; rfl, by subst hV; rfl, v3, by subst hV; exact Nat.le_refl _, by subst hV; exact Nat.le_refl _, by omega⟩
  obtain ⟨X, hX⟩ : ∃ X, V.w_hist (V.hist.w_size (V.hist.size + 1)) = X := ⟨_, rfl⟩
  have x0 : X.dyn = V.dyn := by subst hX; rfl
  have x1 : X.hist = V.hist.w_size (V.hist.size + 1) := by subst hX; rfl
  obtain ⟨k1, k2, k3, k4, k5, k6, k7, k8, k9, k10, k11, k12⟩ := v6
  refine ⟨X, B', ?_, ?_, ?_, ?_, by rw [bd_dyn x0]; exact v1, q, fun b B h1 h2 => by rw [bd_dyn x0]; exact v2 b B h1 h2, ?_⟩
  · unfold J_50_0_j71
    rw [h, Option.bind_some, e, Option.bind_some, hV, Option.bind_some, Option.bind_some, hX]
    rfl
  · rw [x1, v4]; rfl
  · rw [x1, v4]; rfl
  · rw [x1, v4]; show W.hist.size + 1 = _; rw [hz, z1, nI_add]
  · refine ⟨?_, ?_, ?_, ?_, ?_, ?_, ?_, ?_, fun b Q hb => by rw [fp_dyn x0]; exact k9 b Q hb, ?_, ?_, by rw [x0]; exact k12⟩
    · subst hX; exact k1
    · subst hX; exact k2
    · subst hX; exact k3
    · subst hX; exact k4
    · subst hX; exact k5
    · subst hX; exact k6
    · subst hX; exact k7
    · subst hX; exact k8
    · subst hX; exact k10
    · subst hX; exact k11
/-- the place behind the newest -/
theorem c50j {W : Wd} {k o : Nat} (hz : W.hist.size = nI k) (hk : k < 10) (ho : W.hist.oldest = nI o) (ho10 : o < 10) (val : ∀ i a, i < 10 → W.hist.ring i = some a → ∃ B, W.bd a = some B) (inj : ∀ i j a, i < 10 → j < 10 → W.hist.ring i = some a → W.hist.ring j = some a → i = j) (hd : W.dyn.length < 100000) :
    ∃ W' a B', J_50_0_j32 W = some W' ∧ W'.hist.size = nI (k + 1) ∧ W'.hist.oldest = nI o ∧ W'.hist.ring = va_up W.hist.ring ((o + k) % 10) (some a) ∧ (∀ i, i < 10 → ¬ i = (o + k) % 10 → ¬ W.hist.ring i = some a) ∧ W'.bd a = some B' ∧ (∀ R, SP W.board R → SP B' R) ∧ (∀ b B, ¬ b = a → W.bd b = some B → W'.bd b = some B) ∧ KP 1 W W' := by
  have hs : (o + k) % 10 < 10 := Nat.mod_lt _ (by decide)
  have hi : ix ((W.hist.oldest + W.hist.size) - (W.hist.oldest + W.hist.size) / 10 * 10) 10 = some ((o + k) % 10) := by
    rw [ho, hz, nI_add, show (10 : Int32) = nI 10 from rfl, pk_rem (by omega) (by decide) (by decide)]
    exact ixn hs (by decide)
  cases hr : W.hist.ring ((o + k) % 10) with
  | some a =>
    obtain ⟨P, hP⟩ := val _ a hs hr
    obtain ⟨W', B', e, q1, q2, q3, q4, q5, q6, q7⟩ := c50k hP hz
    obtain ⟨k1, k2, k3, k4, k5, k6, k7, k8, k9, k10, k11, k12⟩ := q7
    refine ⟨W', a, B', ?_, q3, q2.trans ho, ?_, fun i hi hne hq => hne (inj i _ a hi hs hq hr), q4, q5, q6, ⟨k1, k2, k3, k4, k5, k6, k7, k8, k9, by omega, by omega, by omega⟩⟩
    · unfold J_50_0_j32
      rw [hi, Option.bind_some, hr, oq_s, hP, Option.bind_some, e]
    · rw [q1]
      funext i
      unfold va_up
      split
      · next h => rw [h, hr]
      · rfl
  | none =>
    obtain ⟨V, hV⟩ : ∃ V, W.pushB = V := ⟨_, rfl⟩
    have v0 : V.hist = W.hist := by subst hV; rfl
    have v1 : V.bd W.top = some Bd.zero := by subst hV; exact pushB_top hd
    obtain ⟨X, hX⟩ : ∃ X, V.w_hist (V.hist.w_ring (va_up V.hist.ring ((o + k) % 10) (some W.top))) = X := ⟨_, rfl⟩
    have x0 : X.dyn = V.dyn := by subst hX; rfl
    have x1 : X.hist = W.hist.w_ring (va_up W.hist.ring ((o + k) % 10) (some W.top)) := by rw [← v0]; subst hX; rfl
    have x2 : X.bd W.top = some Bd.zero := by rw [bd_dyn x0]; exact v1
    have x3 : X.hist.size = nI k := by rw [x1]; exact hz
    obtain ⟨W', B', e, q1, q2, q3, q4, q5, q6, q7⟩ := c50k x2 x3
    obtain ⟨k1, k2, k3, k4, k5, k6, k7, k8, k9, k10, k11, k12⟩ := q7
    have vb : ∀ b B, W.bd b = some B → X.bd b = some B := fun b B hb => by rw [bd_dyn x0]; subst hV; exact pushB_bd hb
    have vf : ∀ b B, W.fp b = some B → X.fp b = some B := fun b B hb => by rw [fp_dyn x0]; subst hV; exact pushB_fp hb
    have vl : X.dyn.length = W.dyn.length + 1 := by
      rw [x0]
      subst hV
      show (W.dyn ++ [_]).length = _
      rw [List.length_append]; rfl
    have hfr : ∀ i, i < 10 → ¬ W.hist.ring i = some W.top := fun i hi hq => by
      obtain ⟨B, hB⟩ := val i _ hi hq
      exact bd_top hd hB rfl
    refine ⟨W', W.top, B', ?_, q3, ?_, ?_, fun i hi _ => hfr i hi, q4, fun R hR => q5 R ?_, fun b B h1 h2 => q6 b B h1 (vb b B h2), ⟨k1.trans ?_, k2.trans ?_, k3.trans ?_, k4.trans ?_, k5.trans ?_, k6.trans ?_, k7.trans ?_, k8.trans ?_, fun b Q hb => k9 b Q (vf b Q hb), ?_, ?_, by omega⟩⟩
    · unfold J_50_0_j32
      rw [hi, Option.bind_some, hr, oq_none, if_pos hd, Option.bind_some, hV, v1, Option.bind_some, Option.bind_some, Option.bind_some, Option.bind_some, hX, e]
    · rw [q2, x1]; exact ho
    · rw [q1, x1]; rfl
    · have : X.board = W.board := by subst hX; subst hV; rfl
      rw [this]; exact hR
    · subst hX; subst hV; rfl
    · subst hX; subst hV; rfl
    · subst hX; subst hV; rfl
    · subst hX; subst hV; rfl
    · subst hX; subst hV; rfl
    · subst hX; subst hV; rfl
    · subst hX; subst hV; rfl
    · subst hX; subst hV; rfl
    · have : X.kc = W.kc + 6 := by subst hX; subst hV; rfl
      omega
    · have : X.kn = W.kn + 129 := by subst hX; subst hV; rfl
      omega
theorem c50 {W : Wd} {k o : Nat} (hz : W.hist.size = nI k) (hk : k ≤ 10) (ho : W.hist.oldest = nI o) (ho10 : o < 10) (val : ∀ i a, i < 10 → W.hist.ring i = some a → ∃ B, W.bd a = some B) (inj : ∀ i j a, i < 10 → j < 10 → W.hist.ring i = some a → W.hist.ring j = some a → i = j) (hd : W.dyn.length < 100000) :
    ∃ W' s a B', F_50 W = some W' ∧ (s = if k = 10 then 1 else 0) ∧ W'.hist.size = nI (k - s + 1) ∧ W'.hist.oldest = nI ((o + s) % 10) ∧ W'.hist.ring = va_up W.hist.ring ((o + k) % 10) (some a) ∧ (∀ i, i < 10 → ¬ i = (o + k) % 10 → ¬ W.hist.ring i = some a) ∧ W'.bd a = some B' ∧ (∀ R, SP W.board R → SP B' R) ∧ (∀ b B, ¬ b = a → W.bd b = some B → W'.bd b = some B) ∧ KP 1 W W' := by
  by_cases h : k = 10
  · subst h
    obtain ⟨X, hX⟩ : ∃ X, W.w_hist (W.hist.w_oldest (nI ((o + 1) % 10))) = X := ⟨_, rfl⟩
    have x0 : X.dyn = W.dyn := by subst hX; rfl
    have x1 : X.hist = W.hist.w_oldest (nI ((o + 1) % 10)) := by subst hX; rfl
    obtain ⟨Y, hY⟩ : ∃ Y, X.w_hist (X.hist.w_size (X.hist.size - 1)) = Y := ⟨_, rfl⟩
    have y0 : Y.dyn = W.dyn := by subst hY; exact x0
    have y1 : Y.hist.ring = W.hist.ring := by subst hY; show X.hist.ring = _; rw [x1]; rfl
    have y2 : Y.hist.size = nI 9 := by subst hY; show X.hist.size - 1 = _; rw [x1]; show W.hist.size - 1 = _; rw [hz]; rfl
    have y3 : Y.hist.oldest = nI ((o + 1) % 10) := by subst hY; show X.hist.oldest = _; rw [x1]; rfl
    obtain ⟨W', a, B', e, q1, q2, q3, q4, q5, q6, q7, q8⟩ := c50j (W := Y) y2 (by decide) y3 (Nat.mod_lt _ (by decide)) (fun i a hi ha => by rw [y1] at ha; rw [bd_dyn y0]; exact val i a hi ha) (fun i j a hi hj h1 h2 => by rw [y1] at h1 h2; exact inj i j a hi hj h1 h2) (by rw [y0]; exact hd)
    have hsl : ((o + 1) % 10 + 9) % 10 = (o + 10) % 10 := by omega
    rw [hsl, y1] at q3 q4
    obtain ⟨k1, k2, k3, k4, k5, k6, k7, k8, k9, k10, k11, k12⟩ := q8
    refine ⟨W', 1, a, B', ?_, rfl, q1, q2, q3, q4, q5, fun R hR => q6 R ?_, fun b B h1 h2 => q7 b B h1 (by rw [bd_dyn y0]; exact h2), ⟨k1.trans ?_, k2.trans ?_, k3.trans ?_, k4.trans ?_, k5.trans ?_, k6.trans ?_, k7.trans ?_, k8.trans ?_, fun b Q hb => k9 b Q (by rw [fp_dyn y0]; exact hb), ?_, ?_, by rw [y0] at k12; exact k12⟩⟩
    · unfold F_50
      have e2 : (W.hist.oldest + 1) - (W.hist.oldest + 1) / 10 * 10 = nI ((o + 1) % 10) := by
        rw [ho, z1, nI_add, show (10 : Int32) = nI 10 from rfl, pk_rem (by omega) (by decide) (by decide)]
      rw [if_neg (by rw [hz]; decide), e2, Option.bind_some, Option.bind_some, hX, Option.bind_some, hY, Option.bind_some]
      exact e
    · have : Y.board = W.board := by subst hY; subst hX; rfl
      rw [this]; exact hR
    · subst hY; subst hX; rfl
    · subst hY; subst hX; rfl
    · subst hY; subst hX; rfl
    · subst hY; subst hX; rfl
    · subst hY; subst hX; rfl
    · subst hY; subst hX; rfl
    · subst hY; subst hX; rfl
    · subst hY; subst hX; rfl
    · have : Y.kc = W.kc := by subst hY; subst hX; rfl
      omega
    · have : Y.kn = W.kn := by subst hY; subst hX; rfl
      omega
  · obtain ⟨W', a, B', e, q1, q2, q⟩ := c50j hz (show k < 10 by omega) ho ho10 val inj hd
    refine ⟨W', 0, a, B', ?_, by rw [if_neg h], q1, by rw [q2, Nat.add_zero, Nat.mod_eq_of_lt ho10], q⟩
    unfold F_50
    rw [if_pos (by rw [hz, show (10 : Int32) = nI 10 from rfl, nI_eq (by omega) (by decide)]; exact h), e]
/-- the two histories -/
def HH (h : Hs) (bd : Nat → Option Bd) (H : Nat → Int32) (e : Int32) : Prop := ∃ k o, k ≤ 10 ∧ o < 10 ∧ h.size = nI k ∧ e = nI k ∧ h.oldest = nI o ∧ (∀ i a, i < 10 → h.ring i = some a → ∃ B, bd a = some B) ∧ (∀ i j a, i < 10 → j < 10 → h.ring i = some a → h.ring j = some a → i = j) ∧ ∀ i, i < k → ∃ a B, h.ring ((o + i) % 10) = some a ∧ bd a = some B ∧ SP B (fun j => H (93 * i + j))
theorem keep {W : Wd} {M : Md} (hH : HH W.hist W.bd M.history M.entries) (hS : SP W.board M.now) (hd : W.dyn.length < 100000) :
    ∃ W' M', F_50 W = some W' ∧ F_166 M = some M' ∧ KP 1 W W' ∧ MH M M' ∧ HH W'.hist W'.bd M'.history M'.entries := by
  obtain ⟨k, o, hk, ho, h1, h2, h3, h4, h5, h6⟩ := hH
  obtain ⟨W', s, a, B', e, q0, q1, q2, q3, q4, q5, q6, q7, q8⟩ := c50 h1 hk h3 ho h4 h5 hd
  obtain ⟨M', s', f, r0, r1, r2, r3, r4⟩ := m166 h2 hk
  obtain rfl : s' = s := by rw [q0, r1]
  have hsl : (o + k) % 10 < 10 := Nat.mod_lt _ (by decide)
  have sk : s' ≤ 1 ∧ (s' = 1 → k = 10) ∧ (s' = 0 → ¬ k = 10) := by
    rw [q0]
    split
    · next h => exact ⟨Nat.le_refl _, fun _ => h, fun z => absurd z (by decide)⟩
    · next h => exact ⟨Nat.zero_le _, fun z => absurd z (by decide), fun _ => h⟩
  obtain ⟨s1, s2, s3⟩ := sk
  have ring : ∀ i b, W'.hist.ring i = some b → (i = (o + k) % 10 ∧ b = a) ∨ (¬ i = (o + k) % 10 ∧ W.hist.ring i = some b) := by
    intro i b hb
    rw [q3] at hb
    unfold va_up at hb
    split at hb
    · next h => cases hb; exact .inl ⟨h, rfl⟩
    · next h => exact .inr ⟨h, hb⟩
  refine ⟨W', M', e, f, q8, r0, k - s' + 1, (o + s') % 10, by omega, Nat.mod_lt _ (by decide), q1, r2, q2, fun i b hi hb => ?_, fun i j b hi hj hb1 hb2 => ?_, fun i hi => ?_⟩
  · rcases ring i b hb with ⟨_, rfl⟩ | ⟨hne, h⟩
    · exact ⟨B', q5⟩
    · obtain ⟨B, hB⟩ := h4 i b hi h
      exact ⟨B, q7 b B (fun z => q4 i hi hne (by rw [h, z])) hB⟩
  · rcases ring i b hb1 with ⟨e1, rfl⟩ | ⟨hne, h⟩
    · rcases ring j b hb2 with ⟨e2, _⟩ | ⟨hne, h⟩
      · omega
      · exact absurd h (q4 j hj hne)
    · rcases ring j b hb2 with ⟨e2, rfl⟩ | ⟨hne2, h'⟩
      · exact absurd h (q4 i hi hne)
      · exact h5 i j b hi hj h h'
  · by_cases hik : i = k - s'
    · subst hik
      have hpos : ((o + s') % 10 + (k - s')) % 10 = (o + k) % 10 := by omega
      refine ⟨a, B', ?_, q5, (q6 _ hS).row fun j hj => r3 j hj⟩
      rw [hpos, q3]
      exact if_pos rfl
    · obtain ⟨b, B, b1, b2, b3⟩ := h6 (i + s') (by omega)
      have hpos : ((o + s') % 10 + i) % 10 = (o + (i + s')) % 10 := by omega
      have hne : ¬ (o + (i + s')) % 10 = (o + k) % 10 := by omega
      refine ⟨b, B, ?_, q7 b B (fun z => q4 _ (Nat.mod_lt _ (by decide)) hne (by rw [b1, z])) b2, b3.row fun j hj => r4 i j (by omega) hj⟩
      rw [hpos, q3]
      show va_up _ _ _ _ = _
      unfold va_up
      rw [if_neg hne, b1]
/-- the class brings the newest back -/
theorem c51 {W : Wd} {k o : Nat} (hz : W.hist.size = nI (k + 1)) (hk : k < 10) (ho : W.hist.oldest = nI o) (ho10 : o < 10) {a : Nat} {B : Bd} (hr : W.hist.ring ((o + k) % 10) = some a) (hB : W.bd a = some B) :
    ∃ W', F_51 W = some W' ∧ (∀ R, SP B R → SP W'.board R) ∧ W'.hist.ring = W.hist.ring ∧ W'.hist.size = nI k ∧ W'.hist.oldest = nI o ∧ W'.pp = W.pp ∧ W'.saved = W.saved ∧ W'.inp = W.inp ∧ W'.ol = W.ol ∧ W'.fps = W.fps ∧ W'.md = W.md ∧ W'.out = W.out ∧ W'.dyn = W.dyn ∧ W'.kc = W.kc ∧ W'.kn = W.kn := by
  obtain ⟨B', e, q⟩ := c2 W.board B
  obtain ⟨X, hX⟩ : ∃ X, W.w_hist (W.hist.w_size (nI k)) = X := ⟨_, rfl⟩
  have x1 : X.hist = W.hist.w_size (nI k) := by subst hX; rfl
  have x2 : X.dyn = W.dyn := by subst hX; rfl
  have x3 : X.board = W.board := by subst hX; rfl
  refine ⟨X.w_board B', ?_, q, ?_, ?_, ?_, ?_, ?_, ?_, ?_, ?_, ?_, ?_, ?_, ?_, ?_⟩
  · unfold F_51
    have e1 : W.hist.size - 1 = nI k := by rw [hz, z1, pk_sub (by omega), Nat.add_sub_cancel]
    have e2 : X.hist.oldest = nI o := by rw [x1]; exact ho
    have e3 : X.hist.size = nI k := by rw [x1]; rfl
    have e4 : X.hist.ring = W.hist.ring := by rw [x1]; rfl
    have hi : ix ((X.hist.oldest + X.hist.size) - (X.hist.oldest + X.hist.size) / 10 * 10) 10 = some ((o + k) % 10) := by
      rw [e2, e3, nI_add, show (10 : Int32) = nI 10 from rfl, pk_rem (by omega) (by decide) (by decide)]
      exact ixn (Nat.mod_lt _ (by decide)) (by decide)
    rw [e1, Option.bind_some, Option.bind_some, hX, hi, Option.bind_some, e4, hr, oq_s, bd_dyn x2, hB, Option.bind_some, x3, e, Option.bind_some, Option.bind_some]
    rfl
  · show X.hist.ring = _; rw [x1]; rfl
  · show X.hist.size = _; rw [x1]; rfl
  · show X.hist.oldest = _; rw [x1]; exact ho
  · subst hX; rfl
  · subst hX; rfl
  · subst hX; rfl
  · subst hX; rfl
  · subst hX; rfl
  · subst hX; rfl
  · subst hX; rfl
  · subst hX; rfl
  · subst hX; rfl
  · subst hX; rfl
