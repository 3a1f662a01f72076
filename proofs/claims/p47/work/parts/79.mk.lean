/-! ===== A YARD MADE ===== -/
/-- n vertices and nothing else -/
def Qn (n : Nat) : Ps := (n, 0, fun _ => 0, 0, 0, fun _ => 0, fun _ _ => 0, fun _ _ => none)
theorem ad_0 (u v : Nat) : ad 0 u v = false := by
  unfold ad
  simp
section MAKE
variable {w : Nat → Nat} {W : Wd} {a n : Nat}
theorem yMake (h : W.cl a = some (.inr (7, am_fd 7))) (hw : w a = a) (h1 : 1 ≤ n) (h6 : n ≤ 6) (htop : W.top < 860000) :
    ∃ W', F_302 W a (nI n) = some W' ∧ Yd (fr w a W.top) W'.cl a (Qn n) ∧ Fz w (fr w a W.top) a 11 51 W W' ∧ W'.gI a 7 6 = some (-1) := by
  have sb : am_SB = 1000000 := rfl
  have haT := cl_lt h
  -- the list
  obtain ⟨W1, e1, k1⟩ := nO_ (W := W) (ci := 10) (by decide) (by omega)
  have x1 := k1.old h
  have s1 := k1.new 0
  rw [Nat.add_zero] at s1
  have s1 : W1.cl W.top = some (.inr (10, [.int 0, .null, .int 0])) := s1
  have t1 : W1.top = W.top + 1 := k1.2.2.1
  obtain ⟨W2, e2, k2⟩ := pv_ (v := .int 0) (i := 0) s1 ⟨show 0 < 3 by decide, rfl, rfl, nofun⟩
  have s2 : W2.cl W.top = some (.inr (10, [.int 0, .null, .int 0])) := by rw [k2.1]; exact upm_s
  obtain ⟨W3, e3, k3⟩ := pv_ (v := .ref (am_SB + 2)) (i := 1) s2 ⟨show 1 < 3 by decide, rfl, rfl, fun z => by
    have q : am_SB + 2 = am_SB + 1 := Value.ref.inj z
    omega⟩
  have s3 : W3.cl W.top = some (.inr (10, [.int 0, .ref (am_SB + 2), .int 0])) := by rw [k3.1]; exact upm_s
  have x3 : W3.cl a = some (.inr (7, [.int 0, .null, .null, .int 0, .null, .null, .int 0, .null])) := by rw [k3.1, upm_n (by omega), k2.1, upm_n (by omega)]; exact x1
  have t3 : W3.top = W.top + 1 := k3.2.2.2.2.2.2.2.2.2.1.trans (k2.2.2.2.2.2.2.2.2.2.1.trans t1)
  obtain ⟨W4, e4, k4⟩ := pv_ (v := .ref W.top) (i := 4) x3 ⟨show 4 < 8 by decide, rfl, rfl, am_ir (by omega)⟩
  have x4 : W4.cl a = some (.inr (7, [.int 0, .null, .null, .int 0, .ref W.top, .null, .int 0, .null])) := by rw [k4.1]; exact upm_s
  have s4 : W4.cl W.top = some (.inr (10, [.int 0, .ref (am_SB + 2), .int 0])) := by rw [k4.1, upm_n (by omega)]; exact s3
  have t4 : W4.top = W.top + 1 := k4.2.2.2.2.2.2.2.2.2.1.trans t3
  -- what is known
  obtain ⟨W5, e5, k5⟩ := nA_ (W := W4) (t := 2) (n := 0) (by decide) (by omega)
  have n5 := k5.new 0
  rw [Nat.add_zero, t4] at n5
  have n5 : W5.cl (W.top + 1) = some (.inl (2, 0, .inl (fun _ => 0))) := n5
  have t5 : W5.top = W.top + 2 := by have q : W5.top = W4.top + 1 := k5.2.2.1; omega
  obtain ⟨W6, e6, k6⟩ := pv_ (v := .ref W4.top) (i := 5) (k5.old x4) ⟨show 5 < 8 by decide, rfl, rfl, am_ir (by omega)⟩
  have x6 : W6.cl a = some (.inr (7, [.int 0, .null, .null, .int 0, .ref W.top, .ref W4.top, .int 0, .null])) := by rw [k6.1]; exact upm_s
  obtain ⟨W7, e7, k7⟩ := pv_ (v := .int (-1)) (i := 6) x6 ⟨show 6 < 8 by decide, rfl, rfl, nofun⟩
  have x7 : W7.cl a = some (.inr (7, [.int 0, .null, .null, .int 0, .ref W.top, .ref W4.top, .int (-1), .null])) := by rw [k7.1]; exact upm_s
  have t7 : W7.top = W.top + 2 := k7.2.2.2.2.2.2.2.2.2.1.trans (k6.2.2.2.2.2.2.2.2.2.1.trans t5)
  have o7 : ∀ b, b < W7.top → ¬ b = a → W7.cl b = W5.cl b := fun b _ hb => by rw [k7.1, upm_n hb, k6.1, upm_n hb]
  -- how far
  obtain ⟨W8, e8, k8⟩ := nA_ (W := W7) (t := 0) (n := 0) (by decide) (by omega)
  have n8 := k8.new 0
  rw [Nat.add_zero] at n8
  have n8 : W8.cl W7.top = some (.inl (0, 0, .inl (fun _ => 0))) := n8
  have t8 : W8.top = W.top + 3 := by have q : W8.top = W7.top + 1 := k8.2.2.1; omega
  obtain ⟨W9, e9, k9⟩ := pv_ (v := .ref W7.top) (i := 7) (k8.old x7) ⟨show 7 < 8 by decide, rfl, rfl, am_ir (by omega)⟩
  have x9 : W9.cl a = some (.inr (7, [.int 0, .null, .null, .int 0, .ref W.top, .ref W4.top, .int (-1), .ref W7.top])) := by rw [k9.1]; exact upm_s
  obtain ⟨WA, eA, kA⟩ := pv_ (v := .int (nI n)) (i := 0) x9 ⟨show 0 < 8 by decide, rfl, rfl, nofun⟩
  have xA : WA.cl a = some (.inr (7, [.int (nI n), .null, .null, .int 0, .ref W.top, .ref W4.top, .int (-1), .ref W7.top])) := by rw [kA.1]; exact upm_s
  have tA : WA.top = W.top + 3 := kA.2.2.2.2.2.2.2.2.2.1.trans (k9.2.2.2.2.2.2.2.2.2.1.trans t8)
  -- the edges
  obtain ⟨WB, eB, kB⟩ := nM_ (W := WA) (t := 6) (n := n) (k := n) (by omega) (by omega) (by omega)
  have nB0 := kB.new 0
  rw [Nat.add_zero] at nB0
  have nB0 : WB.cl WA.top = some (.inl (6, n, .inr (.inr (.inr (.inr (fun j => if j < n then some (WA.top + 1 + j) else none)))))) := nB0
  have nBv : ∀ v, v < n → WB.cl (WA.top + 1 + v) = some (.inl (1, n, .inl (fun _ => 0))) := fun v hv => by
    have q := kB.new (1 + v)
    rw [← Nat.add_assoc] at q
    rw [q, Nat.add_comm 1 v, List.getElem?_cons_succ, am_rows, List.getElem?_replicate, if_pos hv]
  have tB : WB.top = W.top + 4 + n := by
    have q := kB.2.2.1
    rw [List.length_cons, am_rows, List.length_replicate] at q
    omega
  obtain ⟨WC, eC, kC⟩ := pv_ (v := .ref WA.top) (i := 1) (kB.old xA) ⟨show 1 < 8 by decide, rfl, rfl, am_ir (by omega)⟩
  have xC : WC.cl a = some (.inr (7, [.int (nI n), .ref WA.top, .null, .int 0, .ref W.top, .ref W4.top, .int (-1), .ref W7.top])) := by rw [kC.1]; exact upm_s
  have tC : WC.top = W.top + 4 + n := kC.2.2.2.2.2.2.2.2.2.1.trans tB
  -- the pile
  obtain ⟨WD, eD, kD⟩ := nA_ (W := WC) (t := 0) (n := n) (by omega) (by omega)
  have nD := kD.new 0
  rw [Nat.add_zero] at nD
  have nD : WD.cl WC.top = some (.inl (0, n, .inl (fun _ => 0))) := nD
  have tD : WD.top = W.top + 5 + n := by have q : WD.top = WC.top + 1 := kD.2.2.1; omega
  obtain ⟨WE, eE, kE⟩ := pv_ (v := .ref WC.top) (i := 2) (kD.old xC) ⟨show 2 < 8 by decide, rfl, rfl, am_ir (by omega)⟩
  have xE : WE.cl a = some (yo n WA.top WC.top 0 W.top W4.top (-1) W7.top) := by rw [kE.1]; exact upm_s
  have tE : WE.top = W.top + 5 + n := kE.2.2.2.2.2.2.2.2.2.1.trans tD
  have oE : ∀ b c, ¬ b = a → WC.cl b = some c → WE.cl b = some c := fun b c hb hc => by rw [kE.1, upm_n hb]; exact kD.old hc
  have oC : ∀ b c, ¬ b = a → WA.cl b = some c → WC.cl b = some c := fun b c hb hc => by rw [kC.1, upm_n hb]; exact kB.old hc
  have oA : ∀ b c, ¬ b = a → W7.cl b = some c → WA.cl b = some c := fun b c hb hc => by rw [kA.1, upm_n hb, k9.1, upm_n hb]; exact k8.old hc
  have oK : ∀ b c, ¬ b = a → W4.cl b = some c → W7.cl b = some c := fun b c hb hc => by rw [k7.1, upm_n hb, k6.1, upm_n hb]; exact k5.old hc
  have hmA : WE.cl W7.top = some (.inl (0, 0, .inl (fun _ => 0))) := by
    refine oE _ _ (by omega) (oC _ _ (by omega) ?_)
    rw [kA.1, upm_n (by omega), k9.1, upm_n (by omega)]
    exact n8
  have hmB : ∀ b c, ¬ b = a → WB.cl b = some c → WE.cl b = some c := fun b c hb hc => oE b c hb (by rw [kC.1, upm_n hb]; exact hc)
  refine ⟨WE, ?_, ⟨WA.top, WC.top, W.top, W4.top, W7.top, -1, xE, (fr_o haT).trans hw, ⟨fr_n (by omega), fun v => WA.top + 1 + v, _, hmB _ _ (by omega) nB0, fun v hv => ⟨if_pos hv, fr_n (show W.top ≤ WA.top + 1 + v by omega), _, hmB (WA.top + 1 + v) _ (show ¬ WA.top + 1 + v = a by omega) (nBv v hv), fun o _ => by rw [show ad (Qn n).E v o = false from ad_0 v o]; rfl⟩, fun u v _ _ q => by have q : WA.top + 1 + u = WA.top + 1 + v := q; omega⟩, ⟨fr_n (by omega), _, by rw [kE.1, upm_n (by omega)]; exact nD, fun _ _ => rfl⟩, ⟨[], ⟨0, am_SB + 2, oE _ _ (by omega) (oC _ _ (by omega) (oA _ _ (by omega) (oK _ _ (by omega) s4))), fr_n (Nat.le_refl _), by decide, .inl ⟨rfl, rfl⟩⟩, rfl, List.nodup_nil, fun k s hs => by simp at hs⟩, fr_n (by omega), fr_n (by omega), by omega, 0, fun _ => 0, 0, fun _ => 0, oE _ _ (by omega) (oC _ _ (by omega) (oA _ _ (by omega) ?_)), hmA, by decide, .inl rfl⟩, ⟨fun b hb => fr_o hb, fun b hb hne => ?_, ?_, ?_, by omega⟩, yFor xE⟩
  · have e346 : F_346 W1 W.top = some W3 := by
      unfold F_346 F_341 F_340
      rw [rp_ (by omega)]
      simp only [Option.bind_some, e2, e3]
    unfold F_302
    rw [rp_ (by omega), Option.bind_some, e1, Option.bind_some]
    dsimp only
    rw [rp_ (by omega), Option.bind_some, e346, Option.bind_some, e4, Option.bind_some, z0, e5, Option.bind_some]
    dsimp only
    rw [e6, Option.bind_some, e7, Option.bind_some, e8, Option.bind_some]
    dsimp only
    rw [e9, Option.bind_some, eA, Option.bind_some, eB, Option.bind_some]
    dsimp only
    rw [eC, Option.bind_some, eD, Option.bind_some]
    dsimp only
    rw [eE, Option.bind_some]
  · rw [t4, k7.1, upm_n (by omega), k6.1, upm_n (by omega)]
    exact n5
  · have hba : ¬ b = a := fun z => hne (by rw [z]; exact hw)
    rw [kE.1, upm_n hba, kD.1, if_neg (by omega), kC.1, upm_n hba, kB.1, if_neg (by omega), kA.1, upm_n hba, k9.1, upm_n hba, k8.1, if_neg (by omega), k7.1, upm_n hba, k6.1, upm_n hba, k5.1, if_neg (by omega), k4.1, upm_n hba, k3.1, upm_n (by omega), k2.1, upm_n (by omega), k1.1, if_neg (by omega)]
  · exact k1.2.1.tr (k2.sm.tr (k3.sm.tr (k4.sm.tr (k5.2.1.tr (k6.sm.tr (k7.sm.tr (k8.2.1.tr (k9.sm.tr (kA.sm.tr (kB.2.1.tr (kC.sm.tr (kD.2.1.tr kE.sm))))))))))))
  · have cB : Co (n + 1) (n + n * n) WA WB := by
      have q := kB.co
      rw [List.length_cons, am_rows, List.length_replicate] at q
      exact q
    have c := k1.co.tr (k2.co.tr (k3.co.tr (k4.co.tr (k5.co.tr (k6.co.tr (k7.co.tr (k8.co.tr (k9.co.tr (kA.co.tr (cB.tr (kC.co.tr (kD.co.tr kE.co))))))))))))
    have hs : n * n ≤ 6 * 6 := Nat.mul_le_mul h6 h6
    refine c.up ?_ ?_
    · show 1 + (0 + (0 + (0 + (1 + (0 + (0 + (1 + (0 + (0 + (n + 1 + (0 + (1 + 0)))))))))))) ≤ 11
      omega
    · show 3 + (0 + (0 + (0 + (0 + (0 + (0 + (0 + (0 + (0 + (n + n * n + (0 + (n + 0)))))))))))) ≤ 51
      omega
end MAKE
