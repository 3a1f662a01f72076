/-! ===== REACHING: what the yard's search rests on ===== -/
section RM
variable {n E t : Nat}
theorem hold_out {p : Nat → Nat} {v : Nat} (hv : v < n) (h : 2 ^ ds n E t v ≤ p v) : hold n E t p = false := by
  unfold hold
  cases hb : inb n (ds n E t) p with
  | false => rfl
  | true => have := inb_iff.mp hb v hv; omega
theorem pmv_at {p : Nat → Nat} {v o u : Nat} (hne : ¬ v = o) : pmv p v o u = if u = o then p o + 1 else if u = v then p v - 2 else p u := by
  unfold pmv
  by_cases h : u = o
  · rw [if_pos h, if_pos h, if_neg (fun z => hne z.symm)]
  · rw [if_neg h, if_neg h]
/-- the code of a pile after a move -/
theorem hx_mv {p w : Nat → Nat} (hb : ∀ v, v < n → p v < 2 ^ w v) {v o : Nat} (hv : v < n) (ho : o < n) (hne : ¬ v = o) (h2 : 2 ≤ p v) (hr : p o + 1 < 2 ^ w o) : (∀ u, u < n → pmv p v o u < 2 ^ w u) ∧ hx w (pmv p v o) n = mvc w n (hx w p n) v o := by
  have hb' : ∀ u, u < n → pmv p v o u < 2 ^ w u := fun u hu => by
    rw [pmv_at hne]
    split
    · next h => rw [h]; exact hr
    · split
      · next h => rw [h]; have := hb v hv; omega
      · exact hb u hu
  have hc := hx_lt (i := n) hb
  have e2 : dg w n (hx w p n) v = p v := dg_hx hb hv
  have e3 : dg w n (hx w p n) o = p o := dg_hx hb ho
  obtain ⟨q1, q2, q3, q4⟩ := mv_ok hc hv ho hne (by rw [e2]; exact h2) (by rw [e3]; exact hr)
  refine ⟨hb', dg_ext (hx_lt hb') q1 fun u hu => ?_⟩
  rw [dg_hx hb' hu, q3 u hu, pmv_at hne, e2, e3, dg_hx hb hu]
/-- a pile fails where each move leads to one that fails -/
theorem hold_rec (hG : Gr n E) {p : Nat → Nat} (hb : inb n (ds n E t) p = true) : hold n E t p = true ↔ ∀ v o, v < n → o < n → 2 ≤ p v → ad E v o = true → hold n E t (pmv p v o) = true := by
  have hb' := inb_iff.mp hb
  have hc := hx_lt (i := n) hb'
  have key : ∀ v o, v < n → o < n → 2 ≤ p v → ad E v o = true → ((dg (ds n E t) n (hx (ds n E t) p n) o + 1 < 2 ^ ds n E t o ∧ fa n (ad E) (ds n E t) (mvc (ds n E t) n (hx (ds n E t) p n) v o) = true) ↔ hold n E t (pmv p v o) = true) := by
    intro v o hv ho h2 ha
    have hne : ¬ v = o := (hG.2.2 v o (by have := hG.2.1; omega) ha).2.2.1
    rw [dg_hx hb' ho]
    by_cases hr : p o + 1 < 2 ^ ds n E t o
    · obtain ⟨q1, q2⟩ := hx_mv hb' hv ho hne h2 hr
      unfold hold
      rw [inb_iff.mpr q1, q2, Bool.true_and]
      exact ⟨fun z => z.2, fun z => ⟨hr, z⟩⟩
    · have e : hold n E t (pmv p v o) = false := hold_out ho (by rw [pmv_at hne, if_pos rfl]; omega)
      rw [e]
      exact ⟨fun z => absurd z.1 hr, fun z => by cases z⟩
  have h1 : hold n E t p = true ↔ fa n (ad E) (ds n E t) (hx (ds n E t) p n) = true := by
    unfold hold
    rw [hb, Bool.true_and]
  rw [h1, fa_iff hG.ir hc]
  constructor
  · intro h v o hv ho h2 ha
    exact (key v o hv ho h2 ha).1 (h v o hv ho (by rw [dg_hx hb' hv]; exact h2) ha)
  · intro h v o hv ho h2 ha
    rw [dg_hx hb' hv] at h2
    exact (key v o hv ho h2 ha).2 (h v o hv ho h2 ha)
end RM
