/-! ===== THE SETUP TEXT: the model takes a number ===== -/
section PARSE
variable {b : Nat → Nat} {len : Nat} {M : Md}
theorem md_wrong (M : Md) (x : Int32) : ∃ y, M.w_wrong x = y ∧ y.at = M.at ∧ y.from_ = M.from_ ∧ y.kind = M.kind ∧ y.number = M.number ∧ y.read = M.read ∧ y.wrong = x ∧ MF M y := ⟨_, rfl, rfl, rfl, rfl, rfl, rfl, rfl, rfl, rfl, rfl, rfl, rfl, rfl, rfl, rfl, rfl⟩
theorem m149g (hM : MX b len M) {p lo hi : Nat} (hp : p ≤ len) (hC : MK2 b len p M) (hw : M.wrong = -1) (hlo : lo < 2 ^ 31) (hhi : hi < 2 ^ 31) (hi' : ism lo hi b len p = true) :
    ∃ M', F_149 M (nI lo) (nI hi) = some (nI (tN b len p), M') ∧ MK2 b len (tE b len p) M' ∧ MW M M' := by
  have k1 := tE_le (b := b) hp
  obtain ⟨q1, q2, q3, q4⟩ := of_decide_eq_true hi'
  obtain ⟨a, a1, a2, a3⟩ := hC.2.2.2 q1
  obtain rfl := a3 q2
  obtain ⟨M', e, e1, e2⟩ := m144 hM k1.2 hC.2.1
  refine ⟨M', ?_, e1, e2⟩
  unfold F_149
  rw [m148 hp hM.2.1 hC hw hlo hhi, Option.bind_some, hi', if_pos (by decide), e, Option.bind_some, a1]
theorem m149b (hM : MX b len M) {p lo hi : Nat} (hp : p ≤ len) (hC : MK2 b len p M) (hw : M.wrong = -1) (hlo : lo < 2 ^ 31) (hhi : hi < 2 ^ 31) (hi' : ism lo hi b len p = false) :
    ∃ M', F_149 M (nI lo) (nI hi) = some (nI lo, M') ∧ M'.wrong = nI (tS b len p) ∧ M'.read = M.read ∧ M'.kind = M.kind ∧ MF M M' := by
  obtain ⟨y, hy, y1, y2, y3, y4, y5, y6, y7⟩ := md_wrong M (nI (tS b len p))
  refine ⟨y, ?_, y6, y5, y3, y7⟩
  unfold F_149
  rw [m148 hp hM.2.1 hC hw hlo hhi, Option.bind_some, hi', if_neg (by decide), m145g hw hC.1, Option.bind_some, hy]
theorem m149n {e : Nat} {x z : Int32} (h : M.wrong = nI e) (he : e < 2 ^ 31) :
    ∃ M', F_149 M x z = some (x, M') ∧ M'.wrong = nI e ∧ M'.read = M.read ∧ M'.kind = M.kind ∧ MF M M' := by
  obtain ⟨y, hy, y1, y2, y3, y4, y5, y6, y7⟩ := md_wrong M (nI e)
  refine ⟨y, ?_, y6, y5, y3, y7⟩
  unfold F_149
  rw [m148n h he, Option.bind_some, if_neg (fun k => k rfl), m145n h he, Option.bind_some, hy]
end PARSE
