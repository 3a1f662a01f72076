/-! ===== THE LAW'S LOOP: the history list ===== -/
section HIST
variable {w : Nat → Nat} {hl y g : Nat} {hs : List Nat} {H : List Ps} {sv : Option Nat} {S : Option Ps} {r : Int32} {Q : Ps} {B : Wd}
theorem LR.ne (h : LR w B.cl hl y g hs H sv S r) {R : Ps} {x : Nat} (hx : Yd w B.cl x R) : ¬ x = hl ∧ ¬ x = y := by
  refine ⟨?_, hx.ne h.2.2.2.2.2.2.1 (fun fs z => by cases z)⟩
  obtain ⟨⟨mc, es, q, -⟩, -⟩ := h
  exact hx.ne q (fun fs z => by cases z)
theorem LR.yl (h : LR w B.cl hl y g hs H sv S r) : ¬ y = hl := fun z => by
  obtain ⟨⟨mc, es, q, -⟩, -, -, -, -, -, h7, -⟩ := h
  rw [← z, h7] at q
  cases q
/-- one more -/
theorem lr_add {a : Nat} {Q' : Ps} (h : LR w B.cl hl y g hs H sv S r) (hc : LV H S) (hg : Yd w B.cl g Q') (hgn : Q'.n ≤ 6) (ha : Yd w B.cl a Q) (han : Q.n ≤ 6) (h1 : ¬ a ∈ hs) (h2 : ¬ a = g) (h3 : ∀ s, sv = some s → ¬ s = a) (hlen : hs.length < 10) (ht : B.top < 880000) : ∃ V w', F_354 B hl a = some (1, V) ∧ LR w' V.cl hl y g (hs ++ [a]) (H ++ [Q]) sv S r ∧ Yd w' V.cl g Q' ∧ Sm B V ∧ Co 1 10 B V := by
  obtain ⟨e, p, st, kn, ff, kf, a1, -⟩ := id ha
  obtain ⟨n1, n2⟩ := h.ne hg
  obtain ⟨n3, n4⟩ := h.ne ha
  have yl := h.yl
  obtain ⟨k1, k2, k3, k4, k5, k6, k7, k8⟩ := id h
  obtain ⟨v1, v2⟩ := hc
  obtain ⟨V, w', e1, al, fz, -⟩ := alAddK k1 hlen a1 rfl ht
  have kq : ∀ o, ¬ o = hl → Kq (fun _ => True) w w' B.cl V.cl o := fun o ho => fz.kq ho
  have yT := cl_lt k7
  refine ⟨V, w', e1, ⟨al, by rw [List.length_append, List.length_append, k2]; rfl, ?_, ?_, fun k R q => ?_, ?_, ?_, (fz.1 y yT).trans k8⟩, hg.ext (kq g n1) hgn, fz.2.2.1, fz.2.2.2.1⟩
  · rw [List.nodup_append]
    refine ⟨k3, by simp, ?_⟩
    intro x hx z hz
    rw [List.mem_singleton] at hz
    subst hz
    exact fun q => h1 (q ▸ hx)
  · rw [List.mem_append, List.mem_singleton]
    rintro (z | z)
    · exact k4 z
    · exact h2 z.symm
  · by_cases q2 : k < H.length
    · rw [List.getElem?_append_left q2] at q
      obtain ⟨x, x1, x2⟩ := k5 k R q
      refine ⟨x, by rw [List.getElem?_append_left (by omega)]; exact x1, x2.ext (kq x (h.ne x2).1) (v1 k R q).1.2.1⟩
    · have hk := (List.getElem?_eq_some_iff.mp q).1
      rw [List.length_append, List.length_singleton] at hk
      have ek : k = H.length := by omega
      subst ek
      rw [List.getElem?_append_right (Nat.le_refl _), Nat.sub_self] at q
      cases q
      refine ⟨a, by rw [← k2, List.getElem?_append_right (Nat.le_refl _), Nat.sub_self]; rfl, ha.ext (kq a n3) han⟩
  · cases sv with
    | none =>
      cases S with
      | none => exact trivial
      | some R => exact absurd k6 id
    | some s =>
      cases S with
      | none => exact absurd k6 id
      | some R =>
        obtain ⟨x1, x2, x3⟩ := k6
        refine ⟨x1.ext (kq s (h.ne x1).1) (v2 R rfl).1.2.1, x2, ?_⟩
        rw [List.mem_append, List.mem_singleton]
        rintro (z | z)
        · exact x3 z
        · exact h3 s rfl z
  · rw [fz.2.1 y yT (by rw [k8]; exact yl)]
    exact k7
/-- one taken out; the yard looked at may be another -/
theorem lr_rem {i g' : Nat} {H' : List Ps} (h : LR w B.cl hl y g hs H sv S r) (hc : LV H S) {x : Nat} (hi : hs[i]? = some x) (hg : ¬ g' ∈ hs.eraseIdx i) (hs2 : ∀ s, sv = some s → ¬ s = g') (hH : H' = H.eraseIdx i) : ∃ V, F_355 B hl (nI i) = some (x, V) ∧ LR w V.cl hl y g' (hs.eraseIdx i) H' sv S r ∧ (∀ o, ¬ o = hl → Kq (fun _ => True) w w B.cl V.cl o) ∧ Sm B V ∧ Co 0 0 B V := by
  have yl := h.yl
  obtain ⟨k1, k2, k3, k4, k5, k6, k7, k8⟩ := id h
  obtain ⟨v1, v2⟩ := hc
  have hil := (List.getElem?_eq_some_iff.mp hi).1
  obtain ⟨R0, hR0⟩ : ∃ R, H[i]? = some R := ⟨_, List.getElem?_eq_getElem (by omega)⟩
  obtain ⟨x0, b1, b2⟩ := k5 i R0 hR0
  rw [hi] at b1
  cases b1
  have xsb : x < am_SB := by obtain ⟨_, _, _, _, _, _, q, _⟩ := b2; exact lt_cl q
  obtain ⟨V, e1, al, f1, f2, f3, -⟩ := alRemove k1 hi xsb
  have kq : ∀ o, ¬ o = hl → Kq (fun _ => True) w w B.cl V.cl o := fun o ho b c hb hw _ => ⟨by rw [f1 b (by rw [hw]; exact ho)]; exact hb, hw⟩
  refine ⟨V, e1, ⟨al, by rw [List.length_eraseIdx_of_lt hil, hH, List.length_eraseIdx_of_lt (by omega), k2], k3.sublist (List.eraseIdx_sublist ..), hg, fun k R q => ?_, ?_, ?_, k8⟩, kq, f2, f3⟩
  · rw [hH, List.getElem?_eraseIdx] at q
    rw [List.getElem?_eraseIdx]
    by_cases q2 : k < i
    · rw [if_pos q2] at q ⊢
      obtain ⟨z, z1, z2⟩ := k5 k R q
      exact ⟨z, z1, z2.ext (kq z (h.ne z2).1) (v1 k R q).1.2.1⟩
    · rw [if_neg q2] at q ⊢
      obtain ⟨z, z1, z2⟩ := k5 (k + 1) R q
      exact ⟨z, z1, z2.ext (kq z (h.ne z2).1) (v1 (k + 1) R q).1.2.1⟩
  · cases sv with
    | none =>
      cases S with
      | none => exact trivial
      | some R => exact absurd k6 id
    | some s =>
      cases S with
      | none => exact absurd k6 id
      | some R =>
        obtain ⟨x1, x2, x3⟩ := k6
        exact ⟨x1.ext (kq s (h.ne x1).1) (v2 R rfl).1.2.1, hs2 s rfl, fun z => x3 ((List.eraseIdx_sublist ..).mem z)⟩
  · rw [f1 y (by rw [k8]; exact yl)]
    exact k7
/-- all taken out -/
theorem lr_clear (h : LR w B.cl hl y g hs H sv S r) (hc : LV H S) : ∃ V, F_357 B hl = some V ∧ LR w V.cl hl y g [] [] sv S r ∧ (∀ o, ¬ o = hl → Kq (fun _ => True) w w B.cl V.cl o) ∧ Sm B V ∧ Co 0 0 B V := by
  have yl := h.yl
  obtain ⟨k1, k2, k3, k4, k5, k6, k7, k8⟩ := id h
  obtain ⟨v1, v2⟩ := hc
  obtain ⟨V, e1, al, f1, -⟩ := alClear k1
  have kq : ∀ o, ¬ o = hl → Kq (fun _ => True) w w B.cl V.cl o := fun o ho => f1.kq ho
  refine ⟨V, e1, ⟨al, rfl, List.nodup_nil, by simp, fun k R q => by simp at q, ?_, ?_, k8⟩, kq, f1.2.1, f1.2.2.1⟩
  · cases sv with
    | none =>
      cases S with
      | none => exact trivial
      | some R => exact absurd k6 id
    | some s =>
      cases S with
      | none => exact absurd k6 id
      | some R =>
        obtain ⟨x1, x2, x3⟩ := k6
        exact ⟨x1.ext (kq s (h.ne x1).1) (v2 R rfl).1.2.1, x2, by simp⟩
  · rw [f1.1 y (by rw [k8]; exact yl)]
    exact k7
end HIST
