/-! ===== A YARD COPIED: the edges ===== -/
theorem cpy_in {f g : Nat → Int32} {n y : Nat} (hy : y < n) : va_cpy f g 0 0 n y = f y := by
  unfold va_cpy
  rw [if_pos (by omega), Nat.sub_zero, Nat.zero_add]
section COPY
variable {w : Nat → Nat} {W : Wd} {a o : Nat}
/-- rows done so far -/
def rd (E i : Nat) : Nat → Nat → Bool := fun u v => if u < i then ad E u v else false
theorem YM.rowput {e n u E : Nat} {A : Nat → Nat → Bool} {b : Nat} {f : Nat → Int32} (h : YM w W.cl a e n A) (hn : n ≤ 6) (hu : u < n) (hb : W.cl b = some (.inl (1, n, .inl f))) (hf : ∀ v, v < n → f v = bI (ad E u v)) : ∃ r g W', W.aR e (nI u) = some r ∧ W.cl r = some (.inl (1, n, .inl g)) ∧ w r = a ∧ W.cp b (nI 0) r (nI 0) (nI n) = some W' ∧ (∃ g', Wr W W' r (.inl (1, n, .inl g'))) ∧ YM w W'.cl a e n (fun x y => if x = u then ad E u y else A x y) := by
  obtain ⟨h1, r, er, h2, h3, h4⟩ := h
  obtain ⟨a1, a2, g, a3, a4⟩ := h3 u hu
  obtain ⟨W', e1, k⟩ := cp_ (x := 0) (y := 0) (z := n) hb a3 (.inr ⟨.inl rfl, fun j hj => by rw [hf j hj]; cases ad E u j <;> rfl⟩) (by omega) (by omega) (by omega) (by omega)
  have he : W'.cl e = some (.inl (6, n, .inr (.inr (.inr (.inr er))))) := by rw [k.1, upm_n (fun q => by subst q; rw [h2] at a3; cases a3)]; exact h2
  refine ⟨r u, g, W', aR_ h2 (by decide) hu (by omega) a1, a3, a2, e1, ⟨_, k⟩, h1, r, er, he, fun x hx => ?_, h4⟩
  obtain ⟨b1, b2, g2, b3, b4⟩ := h3 x hx
  refine ⟨b1, b2, ?_⟩
  by_cases q : x = u
  · subst q
    refine ⟨_, by rw [k.1]; exact upm_s, fun y hy => ?_⟩
    dsimp only
    rw [if_pos rfl, ← hf y hy]
    exact cpy_in hy
  · refine ⟨g2, by rw [k.1, upm_n (fun z => q (h4 x u hx hu z))]; exact b3, fun y hy => ?_⟩
    dsimp only
    rw [if_neg q]
    exact b4 y hy
end COPY
