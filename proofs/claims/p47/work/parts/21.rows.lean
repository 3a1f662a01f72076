/-! ===== CELLS IN A HEAP FROM A PLACE ON ===== -/
def Rg (h : AHp) (b : Nat) (L : List AC) : Prop := b + L.length ≤ am_SB ∧ b + L.length ≤ h.length ∧ ∀ i, i < L.length → h[b + i]? = L[i]?
def hput (h : AHp) (b : Nat) (L : List AC) : AHp := h.take b ++ (L ++ h.drop (b + L.length))
theorem hput_len {h : AHp} {b : Nat} {L : List AC} (hl : b + L.length ≤ h.length) : (hput h b L).length = h.length := by
  simp only [hput, List.length_append, List.length_take, List.length_drop]; omega
theorem hput_get {h : AHp} {b : Nat} {L : List AC} (hl : b + L.length ≤ h.length) (j : Nat) : (hput h b L)[j]? = if b ≤ j ∧ j < b + L.length then L[j - b]? else h[j]? := by
  unfold hput
  by_cases h1 : j < b
  · rw [if_neg (by omega), List.getElem?_append_left (by rw [List.length_take]; omega), List.getElem?_take, if_pos h1]
  · have hb : (h.take b).length = b := by rw [List.length_take]; omega
    rw [List.getElem?_append_right (by omega), hb]
    by_cases h2 : j - b < L.length
    · rw [if_pos (by omega), List.getElem?_append_left h2]
    · rw [if_neg (by omega), List.getElem?_append_right (by omega), List.getElem?_drop]
      congr 1; omega
theorem Rg.back {h : AHp} {b : Nat} {L : List AC} (r : Rg h b L) : hput h b L = h := by
  apply List.ext_getElem?
  intro j
  rw [hput_get r.2.1]
  split
  · next h1 => rw [← r.2.2 (j - b) (by omega)]; congr 1; omega
  · rfl
theorem Rg.self {h : AHp} {b : Nat} {L L2 : List AC} (r : Rg h b L) (hl : L2.length = L.length) : Rg (hput h b L2) b L2 := by
  refine ⟨by have := r.1; omega, by rw [hput_len (by have := r.2.1; omega)]; have := r.2.1; omega, fun i hi => ?_⟩
  rw [hput_get (by have := r.2.1; omega), if_pos (by omega)]
  congr 1; omega
/-- cells elsewhere stay -/
theorem Rg.far {h : AHp} {b a : Nat} {L L2 K : List AC} (r : Rg h b L) (hl : L2.length = L.length) (q : Rg h a K) (hd : a + K.length ≤ b ∨ b + L.length ≤ a) : Rg (hput h b L2) a K := by
  refine ⟨q.1, by rw [hput_len (by have := r.2.1; omega)]; exact q.2.1, fun i hi => ?_⟩
  rw [hput_get (by have := r.2.1; omega), if_neg (by omega)]
  exact q.2.2 i hi
theorem hput_hput {h : AHp} {b : Nat} {L L2 : List AC} (hb : b + L.length ≤ h.length) (hl : L2.length = L.length) : hput (hput h b L) b L2 = hput h b L2 := by
  apply List.ext_getElem?
  intro j
  rw [hput_get (by rw [hput_len hb]; omega), hput_get hb, hput_get (by omega)]
  split
  · rfl
  · rw [if_neg (by omega)]
theorem hput_set {h : AHp} {b : Nat} {L L2 : List AC} {i : Nat} {c : AC} (hb : b + L.length ≤ h.length) (hi : i < L.length) (hL : L.set i c = L2) : (hput h b L).set (b + i) c = hput h b L2 := by
  subst hL
  apply List.ext_getElem?
  intro j
  rw [List.getElem?_set, hput_get hb, hput_get (by rw [List.length_set]; exact hb), hput_len hb, List.length_set]
  by_cases h1 : b + i = j
  · subst h1
    rw [if_pos rfl, if_pos (by omega), if_pos (by omega), show b + i - b = i by omega, List.getElem?_set, if_pos rfl, if_pos hi]
  · rw [if_neg h1]
    split
    · rw [List.getElem?_set, if_neg (by omega)]
    · rfl
theorem Rg.at {h : AHp} {b : Nat} {L : List AC} (r : Rg h b L) {i : Nat} {c : AC} (hc : L[i]? = some c) : h[b + i]? = some c := by
  have hi : i < L.length := by
    rcases Nat.lt_or_ge i L.length with h1 | h1
    · exact h1
    · rw [List.getElem?_eq_none h1] at hc; cases hc
  rw [r.2.2 i hi, hc]
theorem Rg.lt {h : AHp} {b : Nat} {L : List AC} (r : Rg h b L) {i : Nat} (hi : i < L.length) : b + i < am_SB := by have := r.1; omega
/-! ===== A SLOT FORGOTTEN ===== -/
def Lq (ls ls2 : ALs) : Prop := ls.length = ls2.length ∧ ∀ (i : Nat) (v : Value), ls[i]? = some (some v) → ls2[i]? = some (some v)
theorem Lq.refl (ls : ALs) : Lq ls ls := ⟨rfl, fun _ _ h => h⟩
theorem Lq.set {ls ls2 : ALs} (q : Lq ls ls2) (i : Nat) (v : Option Value) : Lq (ls.set i v) (ls2.set i v) := by
  refine ⟨by rw [List.length_set, List.length_set, q.1], fun j w h => ?_⟩
  rw [List.getElem?_set] at h ⊢
  by_cases h1 : i = j
  · subst h1; rw [if_pos rfl] at h ⊢; rw [← q.1]; exact h
  · rw [if_neg h1] at h ⊢; exact q.2 j w h
theorem Lq.kill {ls ls2 : ALs} (q : Lq ls ls2) (i : Nat) : Lq (am_kill ls i) (am_kill ls2 i) := by
  cases i with
  | zero => exact q
  | succ j =>
    show Lq (match ls[j]? with | some (some (.long _)) => ls.set j none | _ => ls) (match ls2[j]? with | some (some (.long _)) => ls2.set j none | _ => ls2)
    have hw : ∀ (x : ALs), Lq (x.set j none) x → Lq (x.set j none) x := fun _ h => h
    have h0 : ∀ (x y : ALs), Lq x y → Lq (x.set j none) y := fun x y q => by
      refine ⟨by rw [List.length_set, q.1], fun k w h => ?_⟩
      rw [List.getElem?_set] at h
      by_cases h1 : j = k
      · subst h1
        rw [if_pos rfl] at h
        split at h <;> cases h
      · rw [if_neg h1] at h; exact q.2 k w h
    split
    · next l h1 =>
      rw [q.2 j _ h1]
      exact q.set j none
    · next h1 =>
      split
      · next l h2 =>
        refine ⟨by rw [List.length_set, q.1], fun k w h => ?_⟩
        rw [List.getElem?_set]
        by_cases h3 : j = k
        · subst h3
          have h4 := q.2 _ _ h
          rw [h2] at h4
          cases h4
          exact absurd h (h1 l)
        · rw [if_neg h3]; exact q.2 k w h
      · exact q
theorem Lq.set1 {ls ls2 : ALs} (q : Lq ls ls2) (i : Nat) (v : Value) : Lq (am_set1 ls i v) (am_set1 ls2 i v) := (q.kill i).set i _
theorem Lq.set2 {ls ls2 : ALs} (q : Lq ls ls2) (i : Nat) (v : Value) : Lq (am_set2 ls i v) (am_set2 ls2 i v) := ((q.kill i).set i _).set _ _
theorem Lq.clr {ls ls2 : ALs} (q : Lq ls ls2) (i : Nat) : Lq (am_clr ls i) (am_clr ls2 i) := (q.kill i).set i _
