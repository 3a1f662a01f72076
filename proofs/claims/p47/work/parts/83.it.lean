/-! ===== A LIST WALKED ===== -/
/-- a walk over the list at st, k of it done -/
def Wk (m : Nat → Option AC) (it st k : Nat) (mc : Int32) : Prop := ∃ lr : Int32, m it = some (.inr (11, [.int (nI k), .int lr, .int mc, .ref st]))
section ITER
variable {w : Nat → Nat} {W : Wd} {o st : Nat} {l : List Nat}
theorem itNew {mc : Int32} {es : Nat} (h1 : W.cl st = some (.inr (10, [.int mc, .ref es, .int (nI l.length)]))) (htop : W.top < 880000) : ∃ W', F_358 W st = some (W.top, W') ∧ Wk W'.cl W.top st 0 mc ∧ (∀ b, b < W.top → W'.cl b = W.cl b) ∧ Sm W W' ∧ Co 1 4 W W' ∧ W'.top = W.top + 1 := by
  have sb : am_SB = 1000000 := rfl
  have hst := cl_lt h1
  obtain ⟨W1, e1, k1⟩ := nO_ (W := W) (ci := 11) (by decide) (by omega)
  have s1 := k1.new 0
  rw [Nat.add_zero] at s1
  have s1 : W1.cl W.top = some (.inr (11, [.int 0, .int 0, .int 0, .null])) := s1
  have t1 : W1.top = W.top + 1 := k1.2.2.1
  obtain ⟨W2, e2, k2⟩ := pv_ (v := .ref st) (i := 3) s1 ⟨show 3 < 4 by decide, rfl, rfl, am_ir (by omega)⟩
  have s2 : W2.cl W.top = some (.inr (11, [.int 0, .int 0, .int 0, .ref st])) := by rw [k2.1]; exact upm_s
  obtain ⟨W3, e3, k3⟩ := pv_ (v := .int (-1)) (i := 1) s2 ⟨show 1 < 4 by decide, rfl, rfl, nofun⟩
  have s3 : W3.cl W.top = some (.inr (11, [.int 0, .int (-1), .int 0, .ref st])) := by rw [k3.1]; exact upm_s
  obtain ⟨W4, e4, k4⟩ := pv_ (v := .int mc) (i := 2) s3 ⟨show 2 < 4 by decide, rfl, rfl, nofun⟩
  have s4 : W4.cl W.top = some (.inr (11, [.int 0, .int (-1), .int mc, .ref st])) := by rw [k4.1]; exact upm_s
  have l3 : W3.cl st = some (.inr (10, [.int mc, .ref es, .int (nI l.length)])) := by rw [k3.1, upm_n (by omega), k2.1, upm_n (by omega)]; exact k1.old h1
  refine ⟨W4, ?_, ⟨-1, s4⟩, fun b hb => by rw [k4.1, upm_n (by omega), k3.1, upm_n (by omega), k2.1, upm_n (by omega), k1.1, if_neg (by omega)], k1.2.1.tr (k2.sm.tr (k3.sm.tr k4.sm)), (k1.co.tr (k2.co.tr (k3.co.tr k4.co))).up (by decide) (by decide), k4.2.2.2.2.2.2.2.2.2.1.trans (k3.2.2.2.2.2.2.2.2.2.1.trans (k2.2.2.2.2.2.2.2.2.2.1.trans t1))⟩
  have e342 : F_342 W1 W.top st = some W4 := by
    unfold F_342
    rw [e2, Option.bind_some, rp_ (by omega), Option.bind_some, e3, Option.bind_some, gR_ s3 rfl, Option.bind_some, gI_ l3 rfl, Option.bind_some, e4, Option.bind_some]
  unfold F_358
  rw [e1, Option.bind_some]
  dsimp only
  rw [rp_ (by omega), Option.bind_some, e342, Option.bind_some, Option.bind_some]
theorem itHas {it k : Nat} {mc : Int32} (h : AL w W.cl o st l) (hk : Wk W.cl it st k mc) (hl : k ≤ l.length) : F_343 W it = some (if k = l.length then 0 else 1) := by
  obtain ⟨m2, es, h1, h2, h3, -⟩ := h
  obtain ⟨lr, g⟩ := hk
  unfold F_343
  rw [gI_ g rfl, Option.bind_some, gR_ g rfl, Option.bind_some, gI_ h1 rfl, Option.bind_some]
  by_cases z : k = l.length
  · rw [if_pos (by rw [z]), if_pos z]
    rfl
  · rw [if_neg (fun q => z ((nI_eq (by omega) (by omega)).1 q)), if_neg z]
    rfl
theorem itNext {it k s : Nat} {mc : Int32} {es : Nat} (h : AL w W.cl o st l) (hm : W.cl st = some (.inr (10, [.int mc, .ref es, .int (nI l.length)]))) (hk : Wk W.cl it st k mc) (hs : l[k]? = some s) (hsb : s < am_SB) : ∃ W' c, F_344 W it = some (s, W') ∧ Wk W'.cl it st (k + 1) mc ∧ W.cl it = some c ∧ kd c = 31 ∧ (∀ b, ¬ b = it → W'.cl b = W.cl b) ∧ Sm W W' ∧ Co 0 0 W W' ∧ W'.top = W.top := by
  obtain ⟨m2, es2, h1, h2, h3, h4⟩ := h
  rw [hm] at h1
  cases h1
  have hl := (List.getElem?_eq_some_iff.mp hs).1
  obtain ⟨lr, g⟩ := hk
  have hne : ¬ st = it := cl_ne hm g nofun
  rcases h4 with ⟨-, rfl⟩ | ⟨h5, f, h6, h7⟩
  · simp at hl
  · have hne2 : ¬ es = it := cl_ne h6 g nofun
    obtain ⟨W1, e1, k1⟩ := pv_ (v := .int (nI (k + 1))) (i := 0) g ⟨show 0 < 4 by decide, rfl, rfl, nofun⟩
    have s1 : W1.cl it = some (.inr (11, [.int (nI (k + 1)), .int lr, .int mc, .ref st])) := by rw [k1.1]; exact upm_s
    obtain ⟨W2, e2, k2⟩ := pv_ (v := .int (nI k)) (i := 1) s1 ⟨show 1 < 4 by decide, rfl, rfl, nofun⟩
    have s2 : W2.cl it = some (.inr (11, [.int (nI (k + 1)), .int (nI k), .int mc, .ref st])) := by rw [k2.1]; exact upm_s
    have far : ∀ b, ¬ b = it → W2.cl b = W.cl b := fun b hb => by rw [k2.1, upm_n hb, k1.1, upm_n hb]
    have r2 : W2.aR es (nI k) = some s := aR_ (by rw [far es hne2]; exact h6) (by decide) (by omega) (by decide) (by rw [h7 k hl, hs])
    refine ⟨W2, _, ?_, ⟨nI k, s2⟩, g, rfl, far, k1.sm.tr k2.sm, (k1.co.tr k2.co).up (by decide) (by decide), k2.2.2.2.2.2.2.2.2.2.1.trans k1.2.2.2.2.2.2.2.2.2.1⟩
    have e345 : F_345 W it = some () := by
      unfold F_345
      rw [gR_ g rfl, Option.bind_some, gI_ hm rfl, Option.bind_some, gI_ g rfl, Option.bind_some, if_pos rfl]
    have g0 : W.gI it 11 0 = some (nI k) := gI_ g rfl
    have g3 : W.gR it 11 3 = some st := gR_ g rfl
    have l2 : W.gI st 10 2 = some (nI l.length) := gI_ hm rfl
    have l1 : W.gR st 10 1 = some es := gR_ hm rfl
    have ln : W.ln es = some (nI 10) := ln_ h6 (by decide)
    unfold F_344
    rw [rc_ g, Option.bind_some, e345, Option.bind_some, g0, Option.bind_some, g3, Option.bind_some, l2, Option.bind_some, if_pos (nI_lt hl (by omega)), Option.bind_some, l1, Option.bind_some, ln, Option.bind_some, if_pos (nI_lt (by omega) (by decide)), nI_1, e1, Option.bind_some, e2, Option.bind_some, r2, Option.bind_some, rp_ hsb, Option.bind_some]
end ITER
