/-! ===== THE SETUP TEXT: a pile ===== -/
section PARSE
variable {b : Nat → Nat} {len n E sc : Nat} {pl : Nat → Nat} {T : Tx} {M : Md} {tg : Nat → Nat} {wt : Nat → Nat → Nat} {pr : Nat → Nat → Option Nat}
theorem PF.tr {A B C : Tx} {X Y Z : Md} (h : PF A B X Y) (k : PF B C Y Z) : PF A C X Z := ⟨k.1.trans h.1, k.2.1.trans h.2.1, h.2.2.tr k.2.2⟩
theorem nx {p : Nat} (hP : PT b len p T M) : ∃ T' M', F_66 T = some T' ∧ F_144 M = some M' ∧ PT b len (tE b len p) T' M' ∧ T'.draft = T.draft ∧ M'.read = M.read ∧ PF T T' M M' := by
  obtain ⟨hT, hM, hp, hC, hK, hw⟩ := hP
  have k1 := tE_le (b := b) hp
  obtain ⟨T2, t1, t2, t3⟩ := c66 hT k1.2 hC.2.1
  obtain ⟨M2, m1, m2, m3⟩ := m144 hM k1.2 hK.2.1
  exact ⟨T2, M2, t1, m1, ⟨hT.of t3, hM.of m3.1, k1.2, t2, m2, m3.2.2.trans hw⟩, t3.2.2, m3.2.1, t3.1, t3.2.1, m3.1⟩
/-- a number is taken by both -/
theorem nt {p lo hi : Nat} (hP : PT b len p T M) (hlo : lo < 2 ^ 31) (hhi : hi < 2 ^ 31) :
    (ism lo hi b len p = true ∧ lo ≤ tN b len p ∧ tN b len p ≤ hi ∧ F_69 T (nI lo) (nI hi) = some 1 ∧ T.value = nI (tN b len p) ∧ ∃ T' M', F_66 T = some T' ∧ F_149 M (nI lo) (nI hi) = some (nI (tN b len p), M') ∧ PT b len (tE b len p) T' M' ∧ T'.draft = T.draft ∧ M'.read = M.read ∧ PF T T' M M') ∨
    (ism lo hi b len p = false ∧ F_69 T (nI lo) (nI hi) = some 0 ∧ ∃ M', F_149 M (nI lo) (nI hi) = some (nI lo, M') ∧ PB len T M' ∧ (∃ e, e ≤ len ∧ M'.wrong = nI e ∧ T.start = nI e) ∧ M'.read = M.read ∧ MF M M') := by
  obtain ⟨hT, hM, hp, hC, hK, hw⟩ := id hP
  have k0 := tS_le (b := b) hp
  have e1 := c69 hp hC hlo hhi
  cases his : ism lo hi b len p with
  | true =>
    rw [his] at e1
    obtain ⟨q1, q2, q3, q4⟩ := of_decide_eq_true his
    obtain ⟨T2, M2, a1, _, a3, a4, _, a6⟩ := nx hP
    obtain ⟨M3, g1, g2, g3⟩ := m149g hM hp hK hw hlo hhi his
    exact .inl ⟨rfl, q3, q4, e1, by rw [hC.2.2.2.1 q1, if_pos q2], T2, M3, a1, g1, ⟨a3.1, hM.of g3.1, a3.2.2.1, a3.2.2.2.1, g2, g3.2.2.trans hw⟩, a4, g3.2.1, a6.1, a6.2.1, g3.1⟩
  | false =>
    rw [his] at e1
    obtain ⟨M3, g1, g2, g3, _, g5⟩ := m149b hM hp hK hw hlo hhi his
    exact .inr ⟨rfl, e1, M3, g1, ⟨_, k0.2, hC.1, g2⟩, ⟨_, k0.2, g2, hC.1⟩, g3, g5⟩
end PARSE
