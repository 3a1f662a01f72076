section PARSE
variable {b : Nat → Nat} {len n E sc : Nat} {pl : Nat → Nat} {T : Tx} {M : Md} {tg : Nat → Nat} {wt : Nat → Nat → Nat} {pr : Nat → Nat → Option Nat}
/-- a vertex -/
theorem c70 (hR : PR n E pl sc tg wt pr T.draft M.read) {r : Bool} (h : F_69 T (nI 0) (nI (n - 1)) = some (bI r)) : F_70 T = some (bI r) := by
  have h1 := hR.2.2.2.2.2.2.2.2.1.1
  unfold F_70
  rw [hR.1.1, z1, pk_sub h1, z0, h, Option.bind_some]
  rw [← z0, ← z1]
  exact bI_ok
theorem m155 {X : Md} {a : Int32} (hR : PR n E pl sc tg wt pr T.draft M.read) (h : F_149 M (nI 0) (nI (n - 1)) = some (a, X)) : F_155 M = some (a, X) := by
  have h1 := hR.2.2.2.2.2.2.2.2.1.1
  unfold F_155
  rw [show ix 0 93 = some 0 from rfl, Option.bind_some, hR.2.2.2.2.1.1, z1, pk_sub h1, z0, h]
  rfl
end PARSE
