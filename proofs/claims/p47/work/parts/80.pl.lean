/-! ===== WHAT IS DRAWN; THE PLAIN YARD ===== -/
/-- the number drawn at i, below m -/
def dr (L : Nat) (xs : Nat → Int32) (i m : Nat) : Nat := (if i < L then (xs i).toBitVec.toNat % 2 ^ 31 else 0) % m
theorem dr_lt {L : Nat} {xs : Nat → Int32} {i m : Nat} (h : 0 < m) : dr L xs i m < m := Nat.mod_lt _ h
theorem h366 {L : Nat} {xs : Nat → Int32} {W : Wd} {i m : Nat} (hL : L ≤ 260) (hi : i < 2 ^ 31) (h0 : 0 < m) (hm : m < 2 ^ 31) : F_366 L xs W (nI i) (nI m) = some (nI (dr L xs i m)) := by
  have e : F_365 L xs W (nI i) = some (if i < L then xs i else 0) := by
    unfold F_365 J_365_0_j13
    by_cases h : i < L
    · rw [if_neg (show ¬ Int32.ofNat L ≤ nI i from nI_ge h (by omega)), ixn h (by omega), Option.bind_some, if_pos h]
    · rw [if_pos (show Int32.ofNat L ≤ nI i from nI_le (by omega) hi), if_neg h]
  unfold F_366
  rw [e, Option.bind_some, if_neg (nI_ne0 h0 hm)]
  unfold dr
  by_cases h : i < L
  · rw [if_pos h, if_pos h, pk_and (xs i) 31 (by decide), pk_rem (Nat.mod_lt _ (Nat.two_pow_pos 31)) h0 hm]
  · rw [if_neg h, if_neg h, pk_and 0 31 (by decide), pk_rem (Nat.mod_lt _ (Nat.two_pow_pos 31)) h0 hm]
    rfl
theorem gr_none {n : Nat} (h1 : 1 ≤ n) (h6 : n ≤ 6) : Gr n 0 := ⟨h1, h6, fun u v _ h => by rw [ad_0] at h; cases h⟩
/-- a path of three, four pebbles at its end -/
def Qpl : Ps := (((Qn 3).wE (te 0 0 1)).wE (te (te 0 0 1) 1 2)).wm (upl (fun _ => 0) 0 4) 0
section PLAIN
variable {w : Nat → Nat} {W : Wd}
/-- the yard's own place laid -/
theorem yNew (htop : W.top < 890000) : ∃ W', W.nO 7 = some (W.top, W') ∧ W'.cl W.top = some (.inr (7, am_fd 7)) ∧ W'.top = W.top + 1 ∧ Fz w (fr w W.top W.top) W.top 1 8 W W' := by
  obtain ⟨W1, e1, k1⟩ := nO_ (W := W) (ci := 7) (by decide) htop
  have s1 := k1.new 0
  rw [Nat.add_zero] at s1
  have t1 : W1.top = W.top + 1 := k1.2.2.1
  exact ⟨W1, e1, s1, t1, fun b hb => fr_o hb, fun b hb _ => by rw [k1.1, if_neg (by omega)], k1.2.1, k1.co, by omega⟩
theorem yPlain (htop : W.top < 850000) : ∃ W' w', F_308 W = some (W.top, W') ∧ Yd w' W'.cl W.top Qpl ∧ Fz w w' W.top 12 59 W W' := by
  obtain ⟨W1, e1, s1, t1, f1⟩ := yNew (w := w) (W := W) (by omega)
  obtain ⟨W2, e2, y2, f2, -⟩ := yMake (n := 3) s1 (fr_n (Nat.le_refl _)) (by decide) (by decide) (by omega)
  have g0 : Gr 3 0 := gr_none (by decide) (by decide)
  obtain ⟨W3, e3, y3, f3⟩ := yTurn (u := 0) (v := 1) y2 g0 (show 0 < 3 by decide) (show 1 < 3 by decide) (by decide)
  have g1 : Gr 3 (te 0 0 1) := te_gr g0 (by decide) (by decide) (by decide)
  obtain ⟨W4, e4, y4, f4⟩ := yTurn (u := 1) (v := 2) y3 g1 (show 1 < 3 by decide) (show 2 < 3 by decide) (by decide)
  obtain ⟨p, W5, e5, e6, e7, e8, y5, f5⟩ := yPile (v := 0) y4 (show 3 ≤ 6 by decide) (show 0 < 3 by decide) 4
  refine ⟨W5, _, ?_, y5, (f1.tr (f2.tr (f3.fz.tr (f4.fz.tr f5.fz)))).up (by decide) (by decide)⟩
  have r2 : W2.rc W.top 7 = some () := by obtain ⟨_, _, _, _, _, _, q, _⟩ := y2; exact rc_ q
  have r3 : W3.rc W.top 7 = some () := by obtain ⟨_, _, _, _, _, _, q, _⟩ := y3; exact rc_ q
  have sb : am_SB = 1000000 := rfl
  have e2 : F_302 W1 W.top 3 = some W2 := e2
  have e3 : F_304 W2 W.top 0 1 = some W3 := e3
  have e4 : F_304 W3 W.top 1 2 = some W4 := e4
  have e7 : W4.sI p 0 4 = some W5 := e7
  unfold F_308
  rw [e1, Option.bind_some]
  dsimp only
  rw [rp_ (by omega), Option.bind_some, e2, Option.bind_some, r2, Option.bind_some, e3, Option.bind_some, r3, Option.bind_some, e4, Option.bind_some, e5, Option.bind_some, e7, Option.bind_some, Option.bind_some]
end PLAIN
