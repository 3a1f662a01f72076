/-! ===== THE LAW'S LOOP: undo, save, restore; all turns ===== -/
section STEP2
variable {L : Nat} {xs : Nat → Int32} {hl y g : Nat} {sv : Option Nat} {B W0 : Wd} {c k b i : Nat}
theorem list_last {α : Type} : ∀ (l : List α), l = [] ∨ ∃ m x, l = m ++ [x]
  | [] => .inl rfl
  | x :: l => by
    right
    rcases list_last l with rfl | ⟨m, z, rfl⟩
    · exact ⟨[], x, rfl⟩
    · exact ⟨x :: m, z, rfl⟩
/-- undo -/
def cU (B : Wd) (x2 x3 : Nat) (x4 : Option Nat) (x5 : Nat) (L : Nat) (xs : Nat → Int32) (x6 : Int32) : Option ((Nat × Option Nat × Int32 × Wd) ⊕ (Nat × Wd) ⊕ (Int32 × Wd)) :=
  (F_379 B).bind fun (v156, B157) =>
          (B157.rc x3 10).bind fun _ =>
          (F_350 B157 x3).bind fun v160 =>
          if v160 = 0 then
            (B157.rc x3 10).bind fun _ =>
            (F_349 B157 x3).bind fun v164 =>
            J_389_133_j203 L xs B157 x2 x3 x4 x5 x6 (v164 - 1) v156
          else
            J_389_133_j203 L xs B157 x2 x3 x4 x5 x6 (3294967293 : Int32) v156
theorem lU (h : LJ hl y W0 c k b g sv B) (hW : W0.top + c < 690000) : ∃ g' B', cU B g hl sv y L xs (nI i) = some (.inl (g', sv, nI (i + 1), B')) ∧ LJ hl y W0 (c + (b + 2200)) (k + 84400) (b + 99) g' sv B' := by
  obtain ⟨w, Q, H, S, r, hs, h1, h2, h3, h4, h5, h6⟩ := h
  have hV := h3.lv
  obtain ⟨q1, q2, q3⟩ := h3.2.1.n6
  obtain ⟨hl10, -⟩ := HH.len h3.2.2.2.2.1
  have done : ∀ {g' : Nat} {Z : Wd} {F : Option ((Nat × Option Nat × Int32 × Wd) ⊕ (Nat × Wd) ⊕ (Int32 × Wd))}, F = J_389_133_j408 L xs Z g' hl sv y (nI i) → LJ hl y W0 (c + 100) (k + 2000) b g' sv Z → ∃ g' B', F = some (.inl (g', sv, nI (i + 1), B')) ∧ LJ hl y W0 (c + (b + 2200)) (k + 84400) (b + 99) g' sv B' := by
    intro g' Z F hF j
    obtain ⟨B', e3, j2⟩ := l408 (L := L) (xs := xs) (i := i) j (by omega)
    obtain ⟨w9, Q9, H9, S9, r9, hs9, m1, m2, m3, m4, m5, m6⟩ := j2
    exact ⟨g', B', hF.trans e3, w9, Q9, H9, S9, r9, hs9, m1, m2, m3, m4, m5.up (by omega) (by omega), m6.up (by omega)⟩
  have tr : ∀ {Z : Wd}, Z.cl = B.cl → Z.inp = B.inp → IT Z := fun _ hi => by
    obtain ⟨b', len, ht'⟩ := h4
    exact ⟨b', len, by rw [hi]; exact ht'⟩
  rcases list_last H with rfl | ⟨H', R, rfl⟩
  · obtain ⟨V, e, c2, k2, i2, o2⟩ := cUndo0 h3
    have e379 : F_379 B = some (3294967293, V) := by
      unfold F_379
      rw [e, Option.bind_some]
      rfl
    have r2 : LR w V.cl hl y g hs [] sv S r := by rw [k2]; exact h2
    have y2 : Yd w V.cl g Q := by rw [k2]; exact h1
    have rcl : V.rc hl 10 = some () := by obtain ⟨⟨_, _, q, _⟩, _⟩ := r2; exact rc_ q
    have em : F_350 V hl = some 1 := by
      have hl0 : hs.length = 0 := r2.2.1
      rw [alEmpty r2.1, hl0, if_pos rfl]
    refine done (Z := V) (g' := g) ?_ ⟨w, Q, [], S, r, hs, y2, r2, c2, tr k2 i2, (h5.tr o2).up (by omega) (by omega), h6⟩
    unfold cU
    rw [e379, Option.bind_some]
    dsimp only
    rw [rcl, Option.bind_some, em, Option.bind_some, if_neg (by decide)]
    unfold J_389_133_j203
    rw [if_pos rfl, rcl, Option.bind_some, em, Option.bind_some, if_pos (by decide)]
  · obtain ⟨V, e, c2, k2, i2, o2⟩ := cUndo h3
    have e379 : F_379 B = some (nI H'.length, V) := by
      unfold F_379
      rw [e, Option.bind_some]
      rfl
    have r2 : LR w V.cl hl y g hs (H' ++ [R]) sv S r := by rw [k2]; exact h2
    have y2 : Yd w V.cl g Q := by rw [k2]; exact h1
    have rcl : V.rc hl 10 = some () := by obtain ⟨⟨_, _, q, _⟩, _⟩ := r2; exact rc_ q
    have hlen : hs.length = H'.length + 1 := by rw [r2.2.1, List.length_append]; rfl
    rw [List.length_append, List.length_singleton] at hl10
    have em : F_350 V hl = some 0 := by rw [alEmpty r2.1, if_neg (by omega)]
    have sz : F_349 V hl = some (nI (H'.length + 1)) := by rw [alSize r2.1, hlen]
    obtain ⟨h', x1, x2⟩ := r2.2.2.2.2.1 H'.length R (by rw [List.getElem?_append_right (Nat.le_refl _), Nat.sub_self]; rfl)
    have hnd := r2.2.2.1
    have eH : H' = (H' ++ [R]).eraseIdx H'.length := by
      rw [List.eraseIdx_append_of_length_le (Nat.le_refl _), Nat.sub_self]
      show H' = H' ++ []
      rw [List.append_nil]
    have hnot : ¬ h' ∈ hs.eraseIdx H'.length := fun z => by
      obtain ⟨j, hj, ej⟩ := List.getElem_of_mem z
      have q := List.getElem?_eq_getElem hj
      rw [ej, List.getElem?_eraseIdx] at q
      rw [List.length_eraseIdx_of_lt (by omega)] at hj
      rw [if_pos (by omega)] at q
      have u1 := (List.getElem?_eq_some_iff.mp q).2
      have u2 := (List.getElem?_eq_some_iff.mp x1).2
      have := (List.getElem_inj hnd).1 (u1.trans u2.symm)
      omega
    have hsv : ∀ s, sv = some s → ¬ s = h' := fun s hs' => by
      obtain ⟨-, -, -, -, -, q, -⟩ := r2
      subst hs'
      cases S with
      | none => exact absurd q id
      | some R' => exact fun z => q.2.2 (by rw [z]; exact List.mem_of_getElem? x1)
    obtain ⟨Z, n1, n2, n3, n4, n5⟩ := lr_rem (g' := h') (i := H'.length) r2 hV x1 hnot hsv eH
    have yh := x2.ext (n3 h' (r2.ne x2).1) (hV.1 H'.length R (by rw [List.getElem?_append_right (Nat.le_refl _), Nat.sub_self]; rfl)).1.2.1
    obtain ⟨_, _, _, _, _, _, z1, _⟩ := id yh
    refine done (Z := Z) (g' := h') ?_ ⟨w, R, H', S, r, hs.eraseIdx H'.length, yh, n2, n4.ci c2, ?_, (h5.tr (o2.tr n5)).up (by omega) (by omega), h6.2.1 H'.length R (by rw [List.getElem?_append_right (Nat.le_refl _), Nat.sub_self]; rfl), fun kk R' q => h6.2.1 kk R' (by rw [List.getElem?_append_left (List.getElem?_eq_some_iff.mp q).1]; exact q), h6.2.2⟩
    · unfold cU
      rw [e379, Option.bind_some]
      dsimp only
      rw [rcl, Option.bind_some, em, Option.bind_some, if_pos rfl, Option.bind_some, sz, Option.bind_some, nI_pred]
      unfold J_389_133_j203
      rw [if_pos rfl, rcl, Option.bind_some, em, Option.bind_some, if_neg (fun z => z rfl), Option.bind_some, sz, Option.bind_some, Option.bind_some, nI_pred, n1, Option.bind_some]
      dsimp only
      rw [rc_ z1, Option.bind_some]
    · obtain ⟨b', len, ht'⟩ := h4
      exact ⟨b', len, by rw [n4.2.2.2.2.1, i2]; exact ht'⟩
/-- save -/
def cS (B : Wd) (x2 x3 : Nat) (x5 : Nat) (L : Nat) (xs : Nat → Int32) (x6 : Int32) : Option ((Nat × Option Nat × Int32 × Wd) ⊕ (Nat × Wd) ⊕ (Int32 × Wd)) :=
  (F_95 B).bind fun (v143, B144) =>
            (B144.gI x2 7 0).bind fun v145 =>
            if v143 = v145 then
              (B144.nO 7).bind fun (a148, B149) =>
              (if a148 < am_SB then some () else none).bind fun _ =>
              (F_303 B149 a148 x2).bind fun B154 =>
              J_389_133_j408 L xs B154 x2 x3 (some a148) x5 x6
            else
              some (.inr (.inr (0, B144)))
theorem lS (h : LJ hl y W0 c k b g sv B) (hW : W0.top + c < 690000) : ∃ sv' B', cS B g hl y L xs (nI i) = some (.inl (g, sv', nI (i + 1), B')) ∧ LJ hl y W0 (c + (b + 2200)) (k + 84400) (b + 99) g sv' B' := by
  have sb : am_SB = 1000000 := rfl
  obtain ⟨w, Q, H, S, r, hs, h1, h2, h3, h4, h5, h6⟩ := h
  have hV := h3.lv
  obtain ⟨q1, q2, q3⟩ := h3.2.1.n6
  obtain ⟨V, e, c2, k2, i2, o2⟩ := cSave h3
  have r2 : LR w V.cl hl y g hs H sv S r := by rw [k2]; exact h2
  have y2 : Yd w V.cl g Q := by rw [k2]; exact h1
  have co1 := h5.tr o2
  have tV := co1.top0
  have gT : g < V.top := by obtain ⟨_, _, _, _, _, _, q, _⟩ := y2; exact cl_lt q
  have yT := cl_lt r2.2.2.2.2.2.2.1
  obtain ⟨V1, C, w1, e1, e2, ya, fz⟩ := yDup (w := w) y2 q1 q2 q3 (by omega)
  have aT : V.top < am_SB := by omega
  have yg : Yd w1 C.cl g Q := y2.ext (fz.kq (by omega)) q2
  have why : C.cl y = some (.inr (6, [.int r])) := by rw [fz.2.1 y yT (by rw [r2.2.2.2.2.2.2.2]; omega)]; exact r2.2.2.2.2.2.2.1
  have wyy : w1 y = y := (fz.1 y yT).trans r2.2.2.2.2.2.2.2
  have rN : LR w V.cl hl y g hs H none none r := by
    obtain ⟨u1, u2, u3, u4, u5, u6, u7, u8⟩ := r2
    exact ⟨u1, u2, u3, u4, u5, trivial, u7, u8⟩
  have rC := rN.ext (m' := C.cl) (w' := w1) (g' := g) (r' := r) ⟨hV.1, fun R q => by cases q⟩ (fun o _ _ ho => fz.kq (by omega)) (r2.hlg y2) why wyy r2.2.2.2.1 (fun s hs' => by cases hs')
  have rS : LR w1 C.cl hl y g hs H (some V.top) (some Q) r := by
    obtain ⟨u1, u2, u3, u4, u5, u6, u7, u8⟩ := rC
    refine ⟨u1, u2, u3, u4, u5, ⟨ya, by omega, fun z => ?_⟩, u7, u8⟩
    have := r2.lt z
    omega
  have c3 : CI Q H (some Q) r C := fz.2.2.1.ci c2
  obtain ⟨B', e3, j⟩ := l408 (L := L) (xs := xs) (i := i) (W0 := W0) (c := c + 100) (k := k + 2000) (b := b) (g := g) (sv := some V.top) (hl := hl) (y := y) (B := C) ⟨w1, Q, H, some Q, r, hs, yg, rS, c3, by
    obtain ⟨b', len, ht'⟩ := h4
    exact ⟨b', len, by rw [fz.2.2.1.2.2.2.2.1, i2]; exact ht'⟩, (co1.tr fz.2.2.2.1).up (by omega) (by omega), h6.1, h6.2.1, fun R q => by cases q; exact h6.1⟩ (by omega)
  obtain ⟨w9, Q9, H9, S9, r9, hs9, m1, m2, m3, m4, m5, m6⟩ := j
  refine ⟨some V.top, B', ?_, w9, Q9, H9, S9, r9, hs9, m1, m2, m3, m4, m5.up (by omega) (by omega), m6.up (by omega)⟩
  unfold cS
  rw [e, Option.bind_some]
  dsimp only
  rw [(yMany' y2).1, Option.bind_some, if_pos rfl, e1, Option.bind_some]
  dsimp only
  rw [rp_ aT, Option.bind_some, e2, Option.bind_some]
  exact e3
/-- restore -/
def cR (B : Wd) (x2 x3 : Nat) (x4 : Option Nat) (x5 : Nat) (L : Nat) (xs : Nat → Int32) (x6 : Int32) : Option ((Nat × Option Nat × Int32 × Wd) ⊕ (Nat × Wd) ⊕ (Int32 × Wd)) :=
  (F_380 B).bind fun (v119, B120) =>
            oq x4 (
              J_389_133_j288 L xs B120 x2 x3 none x5 x6 (3294967293 : Int32) v119) fun a122 =>
            (if ¬ a122 = am_SB + 1 then some () else none).bind fun _ =>
            (B120.gI a122 7 0).bind fun v140 =>
            J_389_133_j288 L xs B120 x2 x3 (some a122) x5 x6 v140 v119
theorem lR (h : LJ hl y W0 c k b g sv B) (hW : W0.top + c < 690000) : ∃ g' B', cR B g hl sv y L xs (nI i) = some (.inl (g', sv, nI (i + 1), B')) ∧ LJ hl y W0 (c + (b + 2200)) (k + 84400) (b + 99) g' sv B' := by
  have sb : am_SB = 1000000 := rfl
  obtain ⟨w, Q, H, S, r, hs, h1, h2, h3, h4, h5, h6⟩ := h
  have hV := h3.lv
  cases sv with
  | none =>
    have hS : S = none := by
      cases S with
      | none => rfl
      | some R => exact absurd h2.2.2.2.2.2.1 id
    subst hS
    obtain ⟨V, e, c2, k2, i2, o2⟩ := cRestore0 h3
    have e380 : F_380 B = some (3294967293, V) := by
      unfold F_380
      rw [e, Option.bind_some]
      rfl
    obtain ⟨B', e3, j⟩ := l408 (L := L) (xs := xs) (i := i) (W0 := W0) (c := c + 100) (k := k + 2000) (b := b) (g := g) (sv := none) (hl := hl) (y := y) (B := V) ⟨w, Q, H, none, r, hs, by rw [k2]; exact h1, by rw [k2]; exact h2, c2, by
      obtain ⟨b', len, ht'⟩ := h4
      exact ⟨b', len, by rw [i2]; exact ht'⟩, (h5.tr o2).up (by omega) (by omega), h6⟩ (by omega)
    obtain ⟨w9, Q9, H9, S9, r9, hs9, m1, m2, m3, m4, m5, m6⟩ := j
    refine ⟨g, B', ?_, w9, Q9, H9, S9, r9, hs9, m1, m2, m3, m4, m5.up (by omega) (by omega), m6.up (by omega)⟩
    unfold cR
    rw [e380, Option.bind_some]
    dsimp only
    rw [oq_none]
    unfold J_389_133_j288
    rw [if_pos rfl, oq_none]
    exact e3
  | some s =>
    obtain ⟨R, rfl⟩ : ∃ R, S = some R := by
      cases S with
      | none => exact absurd h2.2.2.2.2.2.1 id
      | some R => exact ⟨R, rfl⟩
    obtain ⟨V, e, c2, k2, i2, o2⟩ := cRestore h3
    have e380 : F_380 B = some (nI R.n, V) := by
      unfold F_380
      rw [e, Option.bind_some]
      rfl
    have r2 : LR w V.cl hl y g hs H (some s) (some R) r := by rw [k2]; exact h2
    have yg0 : Yd w V.cl g Q := by rw [k2]; exact h1
    obtain ⟨ys, sg, shs⟩ := r2.2.2.2.2.2.1
    obtain ⟨q1, q2, q3⟩ := (hV.2 R rfl).n6
    have co1 := h5.tr o2
    have tV := co1.top0
    have sT : s < V.top := by obtain ⟨_, _, _, _, _, _, q, _⟩ := ys; exact cl_lt q
    have yT := cl_lt r2.2.2.2.2.2.2.1
    obtain ⟨V1, C, w1, e1, e2, ya, fz⟩ := yDup (w := w) ys q1 q2 q3 (by omega)
    have aT : V.top < am_SB := by omega
    have why : C.cl y = some (.inr (6, [.int r])) := by rw [fz.2.1 y yT (by rw [r2.2.2.2.2.2.2.2]; omega)]; exact r2.2.2.2.2.2.2.1
    have wyy : w1 y = y := (fz.1 y yT).trans r2.2.2.2.2.2.2.2
    have rC : LR w1 C.cl hl y V.top hs H (some s) (some R) r := r2.ext hV (fun o _ _ ho => fz.kq (by omega)) (r2.hlg yg0) why wyy (fun z => by have := r2.lt z; omega) (fun s' hs' => by cases hs'; omega)
    obtain ⟨Z, n1, n2, n3, n4, n5⟩ := lr_clear rC hV
    have yz := ya.ext (n3 V.top (rC.ne ya).1) q2
    have c3 : CI R [] (some R) r Z := (fz.2.2.1.tr n4).ci c2
    obtain ⟨B', e3, j⟩ := l408 (L := L) (xs := xs) (i := i) (W0 := W0) (c := c + 100) (k := k + 2000) (b := b) (g := V.top) (sv := some s) (hl := hl) (y := y) (B := Z) ⟨w1, R, [], some R, r, [], yz, n2, c3, by
      obtain ⟨b', len, ht'⟩ := h4
      exact ⟨b', len, by rw [n4.2.2.2.2.1, fz.2.2.1.2.2.2.2.1, i2]; exact ht'⟩, (co1.tr (fz.2.2.2.1.tr n5)).up (by omega) (by omega), h6.2.2 R rfl, fun kk R' q => by simp at q, fun R' q => h6.2.2 R' q⟩ (by omega)
    obtain ⟨w9, Q9, H9, S9, r9, hs9, m1, m2, m3, m4, m5, m6⟩ := j
    refine ⟨V.top, B', ?_, w9, Q9, H9, S9, r9, hs9, m1, m2, m3, m4, m5.up (by omega) (by omega), m6.up (by omega)⟩
    have hsn : ¬ s = am_SB + 1 := by omega
    have rcl : C.rc hl 10 = some () := by obtain ⟨⟨_, _, q, _⟩, _⟩ := rC; exact rc_ q
    unfold cR
    rw [e380, Option.bind_some]
    dsimp only
    rw [oq_s, if_pos hsn, Option.bind_some, (yMany' ys).1, Option.bind_some]
    unfold J_389_133_j288
    rw [if_pos rfl, oq_s, if_pos hsn, Option.bind_some, e1, Option.bind_some]
    dsimp only
    rw [rp_ aT, Option.bind_some, e2, Option.bind_some, rcl, Option.bind_some, n1, Option.bind_some]
    exact e3
/-- cells of so many turns -/
def cst : Nat → Nat
  | 0 => 0
  | i + 1 => cst i + (48 + 99 * i + 2200)
theorem cst_s (i : Nat) : cst (i + 1) = cst i + (48 + 99 * i + 2200) := by rw [cst]
theorem cst_60 : cst 60 = 310110 := by decide +kernel
theorem cst_le : ∀ i, i ≤ 60 → cst i ≤ 8200 * i
  | 0, _ => Nat.le_refl _
  | i + 1, h => by
    have q := cst_le i (by omega)
    rw [cst_s]
    generalize cst i = z at *
    omega
/-- a turn of the loop -/
theorem lStep (hL : L ≤ 260) (h : LJ hl y W0 c (84400 * i) (48 + 99 * i) g sv B) (hi : i < 60) (hc : c ≤ 8200 * i) (hW : W0.top ≤ 100000) : ∃ g' sv' B', G_389_133 L xs hl y (g, sv, nI i, B) = some (.inl (g', sv', nI (i + 1), B')) ∧ LJ hl y W0 (c + (48 + 99 * i + 2200)) (84400 * (i + 1)) (48 + 99 * (i + 1)) g' sv' B' := by
  have e40 : nI i - nI i / 40 * 40 = nI (i % 40) := pk_rem (a := i) (d := 40) (by omega) (by decide) (by decide)
  have ed : F_366 L xs B (3 + nI (i % 40)) 1000000000 = some (nI (dr L xs (3 + i % 40) 1000000000)) := by
    rw [z3, nI_add]
    exact h366 (m := 1000000000) hL (by omega) (by decide) (by decide)
  have hz : dr L xs (3 + i % 40) 1000000000 < 1000000000 := dr_lt (by decide)
  generalize dr L xs (3 + i % 40) 1000000000 = z at *
  have ex : nI z + (983 * nI i) = nI (z + 983 * i) := by rw [show (983 : Int32) = nI 983 from rfl, pk_mul, nI_add]
  have hx : z + 983 * i < 2 ^ 31 := by omega
  generalize z + 983 * i = x at *
  have e13 : nI x - nI x / 13 * 13 = nI (x % 13) := pk_rem (a := x) (d := 13) hx (by decide) (by decide)
  have d13 : nI x / 13 = nI (x / 13) := pk_div (a := x) (d := 13) hx (by decide) (by decide)
  have e4 : nI (x / 13) - nI (x / 13) / 4 * 4 = nI (x / 13 % 4) := pk_rem (a := x / 13) (d := 4) (by omega) (by decide) (by decide)
  have e16 : nI (x / 13) - nI (x / 13) / 16 * 16 = nI (x / 13 % 16) := pk_rem (a := x / 13) (d := 16) (by omega) (by decide) (by decide)
  have d208 : nI x / 208 = nI (x / 208) := pk_div (a := x) (d := 208) hx (by decide) (by decide)
  have pre : G_389_133 L xs hl y (g, sv, nI i, B) = (if ¬ nI (x % 13) = 0 then cA B g hl sv y L xs (nI i) (nI (x / 13 % 16)) (nI (x / 208)) else if 2 ≤ nI (x / 13 % 4) then (if ¬ nI (x / 13 % 4) = 2 then cR B g hl sv y L xs (nI i) else cS B g hl y L xs (nI i)) else cU B g hl sv y L xs (nI i)) := by
    have e : G_389_133 L xs hl y (g, sv, nI i, B) = (F_366 L xs B (3 + (nI i - nI i / 40 * 40)) 1000000000).bind fun v69 => if ¬ ((v69 + (983 * nI i)) - (v69 + (983 * nI i)) / 13 * 13) = 0 then cA B g hl sv y L xs (nI i) (((v69 + (983 * nI i)) / 13) - ((v69 + (983 * nI i)) / 13) / 16 * 16) ((v69 + (983 * nI i)) / 208) else if 2 ≤ (((v69 + (983 * nI i)) / 13) - ((v69 + (983 * nI i)) / 13) / 4 * 4) then (if ¬ (((v69 + (983 * nI i)) / 13) - ((v69 + (983 * nI i)) / 13) / 4 * 4) = 2 then cR B g hl sv y L xs (nI i) else cS B g hl y L xs (nI i)) else cU B g hl sv y L xs (nI i) := by
      unfold G_389_133
      dsimp only
      rw [if_neg (show ¬ 60 ≤ nI i from nI_ge (b := 60) hi (by omega))]
      rfl
    rw [e, e40, ed, Option.bind_some, ex, e13, d13, e4, e16, d208]
  have m2 : 84400 * i + 84400 = 84400 * (i + 1) := by omega
  have m3 : 48 + 99 * i + 99 = 48 + 99 * (i + 1) := by omega
  rw [← m2, ← m3]
  rw [pre]
  by_cases h13 : x % 13 = 0
  · rw [if_neg (fun q => q (by rw [h13]; rfl))]
    by_cases h2 : 2 ≤ x / 13 % 4
    · rw [if_pos (show 2 ≤ nI (x / 13 % 4) from nI_le (a := 2) h2 (by omega))]
      by_cases h22 : x / 13 % 4 = 2
      · rw [if_neg (fun q => q (by rw [h22]; rfl))]
        obtain ⟨sv', B', e, j⟩ := lS (L := L) (xs := xs) (i := i) h (by omega)
        exact ⟨g, sv', B', e, j⟩
      · rw [if_pos (by rw [show (2 : Int32) = nI 2 from rfl, nI_eq (by omega) (by decide)]; exact h22)]
        obtain ⟨g', B', e, j⟩ := lR (L := L) (xs := xs) (i := i) h (by omega)
        exact ⟨g', sv, B', e, j⟩
    · rw [if_neg (show ¬ 2 ≤ nI (x / 13 % 4) from nI_ge (b := 2) (by omega) (by decide))]
      obtain ⟨g', B', e, j⟩ := lU (L := L) (xs := xs) (i := i) h (by omega)
      exact ⟨g', sv, B', e, j⟩
  · rw [if_pos (nI_ne0 (by omega) (by omega))]
    obtain ⟨g', B', e, j⟩ := lA (L := L) (xs := xs) (i := i) h (by omega) (by omega) (x := x / 208) (by omega) (wh := x / 13 % 16) (Nat.mod_lt _ (by decide))
    exact ⟨g', sv, B', e, j⟩
/-- sixty turns -/
theorem lLoop (hL : L ≤ 260) (h : LJ hl y W0 0 0 48 g none B) (hW : W0.top ≤ 100000) : ∃ g' B', lw (G_389_133 L xs hl y) 200000 (g, none, 0, B) = some (.inl (g', B')) ∧ ∃ sv', LJ hl y W0 310110 5064000 5988 g' sv' B' := by
  have main : ∃ o, lw (G_389_133 L xs hl y) 200000 (g, none, 0, B) = some o ∧ ∃ g' B' sv', o = .inl (g', B') ∧ LJ hl y W0 310110 5064000 5988 g' sv' B' := by
    refine lw_for (n := 60) (fun i s => ∃ g sv B, s = (g, sv, nI i, B) ∧ LJ hl y W0 (cst i) (84400 * i) (48 + 99 * i) g sv B) ?_ ?_ ⟨g, none, B, rfl, h⟩ (by decide)
    · rintro i s hi ⟨g, sv, B, rfl, j⟩
      left
      obtain ⟨g', sv', B', e, j'⟩ := lStep (xs := xs) hL j hi (cst_le i (Nat.le_of_lt hi)) hW
      rw [← cst_s] at j'
      exact ⟨_, e, g', sv', B', rfl, j'⟩
    · rintro s ⟨g, sv, B, rfl, j⟩
      rw [cst_60] at j
      refine ⟨.inl (g, B), ?_, g, B, sv, rfl, j⟩
      unfold G_389_133
      dsimp only
      rw [if_pos (show 60 ≤ nI 60 from nI_le (Nat.le_refl _) (by decide))]
  obtain ⟨o, e, g', B', sv', rfl, j⟩ := main
  exact ⟨g', B', e, sv', j⟩
end STEP2
