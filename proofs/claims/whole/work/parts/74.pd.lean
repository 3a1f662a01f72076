/-! ===== THE SETUP TEXT: the model's token, whole ===== -/
section PARSE
variable {b : Nat → Nat} {len : Nat} {M : Md}
theorem run_gt {lo hi : Nat} {f i : Nat} (hf : 0 < f) : i < run b lo hi f i ↔ lo ≤ b i ∧ b i ≤ hi := by
  cases f with
  | zero => omega
  | succ f =>
    have := run_le b lo hi f (i + 1)
    rw [run]
    by_cases q : lo ≤ b i ∧ b i ≤ hi
    · rw [if_pos q]; exact ⟨fun _ => q, fun _ => by omega⟩
    · rw [if_neg q]; exact ⟨fun h => by omega, fun h => absurd h q⟩
def MW (M M' : Md) : Prop := MF M M' ∧ M'.read = M.read ∧ M'.wrong = M.wrong
theorem MW.rf (M : Md) : MW M M := ⟨MF.rf M, rfl, rfl⟩
theorem MW.tr {A B C : Md} (h : MW A B) (k : MW B C) : MW A C := ⟨h.1.tr k.1, k.2.1.trans h.2.1, k.2.2.trans h.2.2⟩
theorem MU.mw {A B : Md} (h : MU A B) : MW A B := ⟨h.1, h.2.1, h.2.2.1⟩
/-- the model stands at the token behind `p` -/
def MK2 (b : Nat → Nat) (len p : Nat) (M : Md) : Prop := M.from_ = nI (tS b len p) ∧ M.at = nI (tE b len p) ∧ M.kind = nI (tK b len p) ∧ (tK b len p = 2 → ∃ a, M.number = nI a ∧ a ≤ 10000 ∧ (tE b len p - tS b len p ≤ 3 → a = tN b len p))
theorem ex_a (h : ¬ M.kind = 1) : lw (G_144_101) 200000 M = some M := lw_end (k := 199999) (by simp only [G_144_101]; rw [if_pos h])
theorem ex_d (h : ¬ M.kind = 2) : lw (G_144_136) 200000 M = some M := lw_end (k := 199999) (by simp only [G_144_136]; rw [if_pos h])
theorem j144 (hM : MX b len M) {p : Nat} (hp : p ≤ len) (ha : M.at = nI (tS b len p)) (hf : M.from_ = nI (tS b len p)) : ∃ M', J_144_0_j75 M (nI (tK b len p)) = some M' ∧ MK2 b len p M' ∧ MW M M' := by
  have h4 := hM.2.1
  have k1 := tS_le (b := b) hp
  have k2 := tA_le (b := b) hp
  have k3 := tD_le (b := b) hp
  have k5 := tAD (b := b) (len := len) (p := p)
  obtain ⟨A, hA, a1, a2, a3, a4, a5, a6⟩ := md_kind M (nI (tK b len p))
  obtain ⟨B, hB, b1, b2, b3⟩ := md_num A (nI 0)
  have wA : MW M A := ⟨a6, a4, a5⟩
  have wB := wA.tr b3.mw
  have aB : B.at = nI (tS b len p) := b1.trans (a1.trans ha)
  have fB : B.from_ = nI (tS b len p) := b3.2.2.2.1.trans (a2.trans hf)
  have kB : B.kind = nI (tK b len p) := b3.2.2.2.2.trans a3
  have xB : MX b len B := hM.of wB.1
  have hk3 : tK b len p ≤ 3 := by unfold tK; split <;> (try split) <;> (try split) <;> omega
  have ne : ∀ {m : Nat}, m ≤ 3 → ¬ tK b len p = m → ¬ B.kind = nI m := fun {m} h1 h => by rw [kB, nI_eq (by omega) (by omega)]; exact h
  unfold J_144_0_j75
  rw [hA, Option.bind_some, z0, hB, Option.bind_some]
  by_cases q3 : tK b len p = 3
  · have he : tE b len p = tS b len p + 1 := by unfold tE; rw [if_pos q3]
    obtain ⟨C, hC, c1, c2, c3⟩ := md_at B (nI (tS b len p + 1))
    have kC : C.kind = nI 3 := by rw [c3.2.2.2.2, kB, q3]
    rw [if_neg (by rw [kB, q3]; exact fun k => k rfl), aB, nI_1, hC, Option.bind_some, ex_a (by rw [kC]; decide), Option.bind_some, ex_d (by rw [kC]; decide), Option.bind_some]
    exact ⟨C, rfl, ⟨c3.2.2.2.1.trans fB, by rw [c1, he], by rw [kC, q3], fun z => by omega⟩, wB.tr c3.mw⟩
  · rw [if_pos (show ¬ B.kind = 3 from ne (Nat.le_refl _) q3)]
    have he : tE b len p = max (tA b len p) (tD b len p) := by unfold tE; rw [if_neg q3]
    by_cases q1 : tK b len p = 1
    · have hl : tS b len p < tA b len p := by
        unfold tK at q1
        by_cases z : tS b len p < len
        · rw [if_pos z] at q1
          by_cases w : tS b len p < tA b len p
          · exact w
          · rw [if_neg w] at q1; split at q1 <;> omega
        · rw [if_neg z] at q1; omega
      obtain ⟨C, e, e1, e2⟩ := m144a (len - tS b len p) (tS b len p) 200000 B xB (by rw [kB, q1]; rfl) (by omega) (by omega) aB
      have kC : C.kind = nI 1 := by rw [e2.2.2.2.2, kB, q1]
      rw [e, Option.bind_some, ex_d (by rw [kC]; decide), Option.bind_some]
      refine ⟨C, rfl, ⟨e2.2.2.2.1.trans fB, ?_, by rw [kC, q1], fun z => by omega⟩, wB.tr e2.mw⟩
      rw [e1, he, show max (tA b len p) (tD b len p) = tA b len p by omega]
      rfl
    · rw [ex_a (show ¬ B.kind = 1 from ne (by decide) q1), Option.bind_some]
      by_cases q2 : tK b len p = 2
      · have hl : tS b len p < tD b len p := by
          unfold tK at q2
          by_cases z : tS b len p < len
          · rw [if_pos z] at q2
            by_cases w : tS b len p < tA b len p
            · rw [if_pos w] at q2; omega
            · rw [if_neg w] at q2
              by_cases y : tS b len p < tD b len p
              · exact y
              · rw [if_neg y] at q2; omega
          · rw [if_neg z] at q2; omega
        have he2 : tE b len p = tD b len p := by omega
        obtain ⟨C, e, e1, e2, e3⟩ := m144d (len - tS b len p) (tS b len p) 200000 0 B xB (by rw [kB, q2]; rfl) (by omega) (by omega) aB b2 (by decide)
        rw [e, Option.bind_some]
        refine ⟨C, rfl, ⟨e3.2.2.2.1.trans fB, by rw [e1, he2]; rfl, e3.2.2.2.2.trans kB, fun _ => ⟨_, e2, mu_le _ _ _ (by decide), fun h3 => ?_⟩⟩, wB.tr e3.mw⟩
        show mu b (tD b len p - tS b len p) (tS b len p) 0 = tN b len p
        unfold tN
        rw [he2] at h3 ⊢
        refine mu_nu _ _ _ ?_ fun j h1 h2 => ?_
        · have : 10 ^ (tD b len p - tS b len p) ≤ 10 ^ 3 := Nat.pow_le_pow_right (by decide) h3
          omega
        · exact run_in (b := b) (lo := 48) (hi := 57) _ _ j h1 (show j < tD b len p by omega)
      · have hz : tK b len p = 0 := by omega
        have hge : ¬ tS b len p < len := fun z => by
          unfold tK at hz
          rw [if_pos z] at hz
          split at hz <;> (try split at hz) <;> omega
        rw [ex_d (show ¬ B.kind = 2 from ne (by decide) q2), Option.bind_some]
        exact ⟨B, rfl, ⟨fB, by rw [aB, he]; congr 1; omega, kB, fun z => by omega⟩, wB⟩
/-- behind the spaces -/
def T144 (B : Md) : Option Md :=
  (some (B.w_from_ B.at)).bind fun B4 =>
  (F_141 B4 B4.at).bind fun v7 =>
  if 0 ≤ v7 then
    (F_142 v7).bind fun v10 =>
    if v10 = 0 then
      (F_143 v7).bind fun v13 =>
      if v13 = 0 then
        J_144_0_j75 B4 3
      else
        J_144_0_j75 B4 2
    else
      J_144_0_j75 B4 1
  else
    J_144_0_j75 B4 0
theorem t144 (hM : MX b len M) {p : Nat} (hp : p ≤ len) (ha : M.at = nI (tS b len p)) : ∃ M', T144 M = some M' ∧ MK2 b len p M' ∧ MW M M' := by
  have h4 := hM.2.1
  have k1 := tS_le (b := b) hp
  obtain ⟨A, hA, a1, a2, a3, a4, a5, a6⟩ := md_from M (nI (tS b len p))
  have wA : MW M A := ⟨a6, a4, a5⟩
  have xA : MX b len A := hM.of a6
  obtain ⟨M', e, e1, e2⟩ := j144 xA hp (a1.trans ha) a2
  refine ⟨M', ?_, e1, wA.tr e2⟩
  unfold T144
  rw [ha, hA, Option.bind_some, a1, ha, m141 xA (by omega), Option.bind_some]
  by_cases q : tS b len p < len
  · have hb := (xA.2.2 _ q).2
    have ga : tS b len p < tA b len p ↔ 97 ≤ b (tS b len p) ∧ b (tS b len p) ≤ 122 := run_gt (by omega)
    have gd : tS b len p < tD b len p ↔ 48 ≤ b (tS b len p) ∧ b (tS b len p) ≤ 57 := run_gt (by omega)
    rw [if_pos q, if_pos (nI_pos' (by omega)), m142 hb, Option.bind_some]
    by_cases q1 : 97 ≤ b (tS b len p) ∧ b (tS b len p) ≤ 122
    · have hk : tK b len p = 1 := by unfold tK; rw [if_pos q, if_pos (ga.2 q1)]
      rw [hk] at e
      rw [decide_eq_true q1, if_neg (by decide), z1]
      exact e
    · rw [decide_eq_false q1, if_pos (by decide), m143 hb, Option.bind_some]
      by_cases q2 : 48 ≤ b (tS b len p) ∧ b (tS b len p) ≤ 57
      · have hk : tK b len p = 2 := by unfold tK; rw [if_pos q, if_neg (fun z => q1 (ga.1 z)), if_pos (gd.2 q2)]
        rw [hk] at e
        rw [decide_eq_true q2, if_neg (by decide), z2]
        exact e
      · have hk : tK b len p = 3 := by unfold tK; rw [if_pos q, if_neg (fun z => q1 (ga.1 z)), if_neg (fun z => q2 (gd.1 z))]
        rw [hk] at e
        rw [decide_eq_false q2, if_pos (by decide), z3]
        exact e
  · have hk : tK b len p = 0 := by unfold tK; rw [if_neg q]
    rw [hk, nI_0] at e
    rw [if_neg q, if_neg (by decide)]
    exact e
theorem m144 (hM : MX b len M) {p : Nat} (hp : p ≤ len) (ha : M.at = nI p) : ∃ M', F_144 M = some M' ∧ MK2 b len p M' ∧ MW M M' := by
  have h4 := hM.2.1
  have hF : F_144 M = (F_141 M M.at).bind fun v2 => if ¬ v2 = 32 then T144 M else (some (M.w_at (M.at + 1))).bind fun B54 => (lw (G_144_0) 200000 B54).bind T144 := rfl
  rw [hF, ha, m141 hM (by omega), Option.bind_some]
  by_cases q : p < len
  · rw [if_pos q]
    have hp32 := pk32 hM q
    by_cases w : 32 ≤ b p ∧ b p ≤ 32
    · obtain ⟨y, hy, y1, y2, y3⟩ := md_at M (nI (p + 1))
      obtain ⟨X, e, e1, e2⟩ := m144s (len - p - 1) (p + 1) 200000 y (hM.of y3.1) (by omega) (by omega) y1
      have et : tS b len p = run b 32 32 (len - p - 1) (p + 1) := by
        unfold tS
        rw [show len - p = (len - p - 1) + 1 by omega, run, if_pos w]
        rfl
      obtain ⟨M', g1, g2, g3⟩ := t144 (hM.of (y3.tr e2).1) hp (by rw [et]; exact e1)
      refine ⟨M', ?_, g2, (y3.tr e2).mw.tr g3⟩
      rw [if_neg (fun z => z (hp32.2 w)), nI_1, hy, Option.bind_some, e, Option.bind_some, g1]
    · have et : tS b len p = p := by
        unfold tS
        rw [show len - p = (len - p - 1) + 1 by omega, run, if_neg w]
      rw [if_pos (fun z => w (hp32.1 z))]
      exact t144 hM hp (by rw [et]; exact ha)
  · have et : tS b len p = p := by
      unfold tS
      rw [show len - p = 0 by omega]
      rfl
    rw [if_neg q, if_pos (by decide)]
    exact t144 hM hp (by rw [et]; exact ha)
end PARSE
