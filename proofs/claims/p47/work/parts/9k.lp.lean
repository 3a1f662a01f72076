/-! ===== THE LAW'S LOOP: one turn ===== -/
section STEP
variable {L : Nat} {xs : Nat → Int32} {hl y g : Nat} {sv : Option Nat} {B W0 : Wd} {c k b i : Nat}
theorem CI.lv {H : List Ps} {S : Option Ps} {r : Int32} {Q : Ps} (h : CI Q H S r B) : LV H S := h.vq
theorem VQ.n6 {Q : Ps} (h : VQ Q) : 1 ≤ Q.n ∧ Q.n ≤ 6 ∧ Q.sc ≤ 6 := ⟨h.1.1, h.1.2.1, h.2.2.1.1⟩
/-- the code of a drawn call -/
def cA (B : Wd) (x2 x3 : Nat) (x4 : Option Nat) (x5 : Nat) (L : Nat) (xs : Nat → Int32) (x6 wh X : Int32) : Option ((Nat × Option Nat × Int32 × Wd) ⊕ (Nat × Wd) ⊕ (Int32 × Wd)) :=
  (B.nO 7).bind fun (a71, B72) =>
        (if a71 < am_SB then some () else none).bind fun _ =>
        (F_303 B72 a71 x2).bind fun B77 =>
        (F_385 B77 x2 x5 wh X).bind fun (v79, B80) =>
        (F_386 B80 a71 wh X).bind fun (v82, B83) =>
        if v82 = v79 then
          (F_381 B83 v79).bind fun v86 =>
          if v86 = 0 then
            (B83.rc x3 10).bind fun _ =>
            (F_349 B83 x3).bind fun v90 =>
            if ¬ v90 = 10 then
              J_389_133_j401 L xs B83 x2 x3 x4 x5 x6 a71
            else
              (B83.rc x3 10).bind fun _ =>
              (F_355 B83 x3 0).bind fun (a114, B115) =>
              J_389_133_j401 L xs B115 x2 x3 x4 x5 x6 a71
          else
            J_389_133_j408 L xs B83 a71 x3 x4 x5 x6
        else
          some (.inr (.inr (0, B83)))
theorem lA (h : LJ hl y W0 c k b g sv B) (hb : b ≤ 5988) (hW : W0.top + c < 690000) {x : Nat} (hx : x < 2 ^ 31) {wh : Nat} (hwh : wh < 16) : ∃ g' B', cA B g hl sv y L xs (nI i) (nI wh) (nI x) = some (.inl (g', sv, nI (i + 1), B')) ∧ LJ hl y W0 (c + (b + 2200)) (k + 84400) (b + 99) g' sv B' := by
  have sb : am_SB = 1000000 := rfl
  obtain ⟨w, Q, H, S, r, hs, h1, h2, h3, h4, h5, h6⟩ := h
  have ht := h5.top0
  have hV := h3.lv
  obtain ⟨q1, q2, q3⟩ := h3.2.1.n6
  have gT : g < B.top := by obtain ⟨_, _, _, _, _, _, q, _⟩ := h1; exact cl_lt q
  have yT := cl_lt h2.2.2.2.2.2.2.1
  obtain ⟨B1, C, w1, e1, e2, ya, fz⟩ := yDup (w := w) h1 q1 q2 q3 (by omega)
  have aT : B.top < am_SB := by omega
  generalize ha : B.top = a at *
  have hlT : ∀ o, o < a → ¬ o = a := fun o ho => by omega
  have yg : Yd w1 C.cl g Q := h1.ext (fz.kq (hlT g gT)) q2
  have why : C.cl y = some (.inr (6, [.int r])) := by rw [fz.2.1 y (by omega) (by rw [h2.2.2.2.2.2.2.2]; omega)]; exact h2.2.2.2.2.2.2.1
  have wyy : w1 y = y := (fz.1 y (by omega)).trans h2.2.2.2.2.2.2.2
  have c1 : CI Q H S r C := fz.2.2.1.ci h3
  have tC : C.top ≤ a + 25 := by have z1 := fz.2.2.2.1.1; have z2 := fz.2.2.2.1.2.2; omega
  have hyg := h2.yg h1
  have P : PRE w1 C g y a Q H S r := ⟨yg, ya, by omega, why, wyy, fun z => hyg z.symm, by omega, c1, by omega⟩
  have rC : LR w1 C.cl hl y g hs H sv S r := h2.ext hV (fun o _ _ ho => fz.kq (hlT o (by omega))) (h2.hlg h1) why wyy h2.2.2.2.1 (fun s hs' => by
    obtain ⟨-, -, -, -, -, q, -⟩ := h2
    subst hs'
    cases S with
    | none => exact absurd q id
    | some R => exact q.2.1)
  obtain ⟨Cf, hR, hCf⟩ := turn P (by have := h6.1; omega) hx wh hwh
  obtain ⟨due, W1, w2, W2, Q', r', hF, hKn, hCW, hcl, hor, hy2, hwy, hco, hinp⟩ := hR
  have ya1 : Yd w2 W1.cl a Q := ya.ext (hKn.kq (by omega) (by rw [wyy]; omega)) q2
  have e386 := (hCf W1 w2 ya1).trans hCW
  have ya2 : Yd w2 W2.cl a Q := by rw [hcl]; exact ya1
  have anh : ¬ a ∈ hs := fun z => by have := h2.lt z; omega
  have asv : ∀ s, sv = some s → ¬ s = a := fun s hs' => by have := h2.svlt hs'; omega
  have i4 : ∀ Z : Wd, Z.inp = W2.inp → IT Z := fun Z hZ => by
    obtain ⟨b', len, ht'⟩ := h4
    exact ⟨b', len, by rw [hZ, hinp, fz.2.2.1.2.2.2.2.1]; exact ht'⟩
  have hsm0 : sm Q.pl Q.n ≤ b := h6.1
  have co2 : Co (c + (b + 2175)) (k + 84201) W0 W2 := (h5.tr (fz.2.2.2.1.tr hco)).up (by omega) (by omega)
  have t2 := co2.top0
  have pre : cA B g hl sv y L xs (nI i) (nI wh) (nI x) = (F_381 W2 due).bind fun v86 => if v86 = 0 then (W2.rc hl 10).bind fun _ => (F_349 W2 hl).bind fun v90 => if ¬ v90 = 10 then J_389_133_j401 L xs W2 g hl sv y (nI i) a else (W2.rc hl 10).bind fun _ => (F_355 W2 hl 0).bind fun (a114, B115) => J_389_133_j401 L xs B115 g hl sv y (nI i) a else J_389_133_j408 L xs W2 a hl sv y (nI i) := by
    unfold cA
    rw [e1, Option.bind_some]
    dsimp only
    rw [rp_ aT, Option.bind_some, e2, Option.bind_some, hF, Option.bind_some]
    dsimp only
    rw [e386, Option.bind_some]
    dsimp only
    rw [if_pos rfl]
  rcases hor with ⟨d1, d2⟩ | ⟨d1, d2, d3, d4, d5⟩
  · -- refused
    have rE : LR w2 W2.cl hl y a hs H sv S r' := by
      rw [hcl]
      exact rC.ext hV (fun o h1' h2' _ => hKn.kq h1' (by rw [wyy]; exact fun z => h2' z.symm)) (rC.hlg yg) (by rw [← hcl]; exact hy2) hwy anh asv
    obtain ⟨B', e3, j⟩ := l408 (L := L) (xs := xs) (i := i) (g := a) ⟨w2, Q, H, S, r', hs, ya2, rE, d2, i4 W2 rfl, co2, h6.up (Nat.le_add_right b 99)⟩ (by omega)
    obtain ⟨w9, Q9, H9, S9, r9, hs9, m1, m2, m3, m4, m5, m6⟩ := j
    refine ⟨a, B', ?_, w9, Q9, H9, S9, r9, hs9, m1, m2, m3, m4, m5.up (by omega) (by omega), m6⟩
    rw [pre, d1, Option.bind_some, if_neg (by decide)]
    exact e3
  · -- done
    have rE : LR w2 W2.cl hl y g hs H sv S r' := by
      rw [hcl]
      exact rC.ext hV (fun o h1' h2' _ => hKn.kq h1' (by rw [wyy]; exact fun z => h2' z.symm)) (rC.hlg yg) (by rw [← hcl]; exact hy2) hwy rC.2.2.2.1 (fun s hs' => by
        obtain ⟨-, -, -, -, -, q, -⟩ := rC
        subst hs'
        cases S with
        | none => exact absurd q id
        | some R => exact q.2.1)
    have hg6 : Q'.n ≤ 6 := by rw [d4]; exact q2
    have rcl : W2.rc hl 10 = some () := by obtain ⟨⟨_, _, q, _⟩, _⟩ := rE; exact rc_ q
    have sz : F_349 W2 hl = some (nI H.length) := by rw [alSize rE.1, rE.2.1]
    obtain ⟨hl10, -⟩ := HH.len h3.2.2.2.2.1
    -- the list with one more, of any world that comes here
    have fin : ∀ (Z : Wd) (hs1 : List Nat) (H1 : List Ps), LR w2 Z.cl hl y g hs1 H1 sv S r' → LV H1 S → Yd w2 Z.cl g Q' → Yd w2 Z.cl a Q → ¬ a ∈ hs1 → hs1.length < 10 → Sm W2 Z → Co 0 0 W2 Z → hpush H Q = H1 ++ [Q] → ∃ B', J_389_133_j401 L xs Z g hl sv y (nI i) a = some (.inl (g, sv, nI (i + 1), B')) ∧ LJ hl y W0 (c + (b + 2200)) (k + 84400) (b + 99) g sv B' := by
      intro Z hs1 H1 l1 l2 l3 l4 l5 l6 l7 l8 l9
      have tZ := (co2.tr l8).top0
      obtain ⟨V, w3, n1, n2, n3, n4, n5⟩ := lr_add l1 l2 l3 hg6 l4 q2 l5 (by omega) asv l6 (by omega)
      rw [← l9] at n2
      have c3 : CI Q' (hpush H Q) S r' V := (l7.tr n4).ci d3
      have co3 : Co (c + (b + 2176)) (k + 84211) W0 V := (co2.tr (l8.tr n5)).up (by omega) (by omega)
      have bnd : LB (b + 99) Q' (hpush H Q) S := by
        obtain ⟨u1, u2, u3⟩ := h6
        refine ⟨by omega, fun kk R q => ?_, fun R q => Nat.le_trans (u3 R q) (by omega)⟩
        unfold hpush at q
        by_cases z : kk < (if H.length = 10 then H.drop 1 else H).length
        · rw [List.getElem?_append_left z] at q
          split at q
          · rw [List.getElem?_drop] at q
            exact Nat.le_trans (u2 _ R q) (by omega)
          · exact Nat.le_trans (u2 _ R q) (by omega)
        · have hlt := (List.getElem?_eq_some_iff.mp q).1
          rw [List.length_append, List.length_singleton] at hlt
          rw [List.getElem?_append_right (by omega), show kk - (if H.length = 10 then H.drop 1 else H).length = 0 by omega] at q
          cases q
          omega
      obtain ⟨B', e3, j⟩ := l408 (L := L) (xs := xs) (i := i) (g := g) ⟨w3, Q', hpush H Q, S, r', hs1 ++ [a], n3, n2, c3, i4 V (by rw [(l7.tr n4).2.2.2.2.1]), co3, bnd⟩ (by omega)
      obtain ⟨w9, Q9, H9, S9, r9, hs9, m1, m2, m3, m4, m5, m6⟩ := j
      refine ⟨B', ?_, w9, Q9, H9, S9, r9, hs9, m1, m2, m3, m4, m5.up (by omega) (by omega), m6⟩
      have rZ : Z.rc hl 10 = some () := by obtain ⟨⟨_, _, q, _⟩, _⟩ := l1; exact rc_ q
      unfold J_389_133_j401
      rw [rZ, Option.bind_some, n1, Option.bind_some]
      exact e3
    rw [d1, Option.bind_some, if_pos rfl, rcl, Option.bind_some, sz, Option.bind_some, Option.bind_some] at pre
    by_cases h10 : H.length = 10
    · obtain ⟨x0, hx0⟩ : ∃ x, hs[0]? = some x := ⟨_, List.getElem?_eq_getElem (by have := rE.2.1; omega)⟩
      obtain ⟨V, n1, n2, n3, n4, n5⟩ := lr_rem (g' := g) (i := 0) rE hV hx0 (fun z => rE.2.2.2.1 ((List.eraseIdx_sublist ..).mem z)) (fun s hs' => by
        obtain ⟨-, -, -, -, -, q, -⟩ := rE
        subst hs'
        cases S with
        | none => exact absurd q id
        | some R => exact q.2.1) (H' := H.drop 1) (by cases H with | nil => rfl | cons _ _ => rfl)
      have hl1 : (hs.eraseIdx 0).length = 9 := by rw [List.length_eraseIdx_of_lt (by have := rE.2.1; omega), rE.2.1]; omega
      obtain ⟨B', e3, j⟩ := fin V (hs.eraseIdx 0) (H.drop 1) n2 ⟨fun kk R q => by rw [List.getElem?_drop] at q; exact hV.1 _ R q, hV.2⟩ (d2.ext (n3 g (rE.ne d2).1) hg6) (ya2.ext (n3 a (rE.ne ya2).1) q2) (fun z => anh ((List.eraseIdx_sublist ..).mem z)) (by omega) n4 n5 (by unfold hpush; rw [if_pos h10])
      refine ⟨g, B', ?_, j⟩
      have n1 : F_355 W2 hl 0 = some (x0, V) := n1
      rw [pre, if_neg (fun z => z (by rw [h10]; rfl)), n1, Option.bind_some]
      exact e3
    · obtain ⟨B', e3, j⟩ := fin W2 hs H rE hV d2 ya2 anh (by have := rE.2.1; omega) (Sm.rf W2) (Co.rf W2) (by unfold hpush; rw [if_neg h10])
      refine ⟨g, B', ?_, j⟩
      rw [pre, if_pos (by rw [show (10 : Int32) = nI 10 from rfl, nI_eq (by omega) (by decide)]; exact h10)]
      exact e3
end STEP
