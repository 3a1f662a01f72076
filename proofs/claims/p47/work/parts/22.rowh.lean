/-! ===== ROWS OF RUNS THAT TOUCH THE HEAP, AND BRANCHES ===== -/
/-- an index inside -/
def ix (x : Int32) (n : Nat) : Option Nat := if 0 ≤ x.toInt ∧ x.toInt < n then some x.toNatClampNeg else none
theorem ix_some {x : Int32} {n i : Nat} (h : ix x n = some i) : (0 ≤ x.toInt ∧ x.toInt < n) ∧ x.toNatClampNeg = i := by
  unfold ix at h
  split at h
  · next h1 => cases h; exact ⟨h1, rfl⟩
  · cases h
theorem bd_some {α β : Type} {o : Option α} {f : α → Option β} {r : β} (h : o.bind f = some r) : ∃ a, o = some a ∧ f a = some r := by
  cases o with
  | none => cases h
  | some a => exact ⟨a, rfl, h⟩
section RW
variable {d : Nat} {M : AMe} {scr : ASc} {res : ARe} {pc r1 r2 a b i j : Nat} {ls : ALs} {st : List Value} {h H : AHp} {c n : Nat} {x y : Int32}
theorem x_lda {p : Nat} (hE : am_find M.2.2.2.2.2.2 pc = some (p, .aload i, r1, r2)) (hp : p = pc) (hl : ls[i]? = some (some (.ref a))) (ha : a < am_SB) (k : Ex d M scr (pc + 2, ls, .ref a :: st, h, c, n) res) : Ex d M scr (pc, ls, st, h, c, n) res := by
  subst hp
  refine x_s hE rfl (S := (p + 2, ls, .ref a :: st, h, 0, 0)) ?_ k
  delta am_step am_lda
  try dsimp only
  rw [hl]
theorem x_ldan {p : Nat} {i : Fin 4} (hE : am_find M.2.2.2.2.2.2 pc = some (p, .aload_n i, r1, r2)) (hp : p = pc) (hl : ls[(i : Nat)]? = some (some (.ref a))) (ha : a < am_SB) (k : Ex d M scr (pc + 1, ls, .ref a :: st, h, c, n) res) : Ex d M scr (pc, ls, st, h, c, n) res := by
  subst hp
  refine x_s hE rfl (S := (p + 1, ls, .ref a :: st, h, 0, 0)) ?_ k
  delta am_step am_lda
  try dsimp only
  rw [hl]
theorem x_getf {p q ci : Nat} {fs : List Value} {v : Value} (hE : am_find M.2.2.2.2.2.2 pc = some (p, .getfield q, ci, r2)) (hp : p = pc) (ha : a < am_SB) (hc : h[a]? = some (.inr (ci, fs))) (hv : fs[r2]? = some v) (k : Ex d M scr (pc + 3, ls, v :: st, h, c, n) res) : Ex d M scr (pc, ls, .ref a :: st, h, c, n) res := by
  subst hp
  refine x_s hE rfl (S := (p + 3, ls, v :: st, h, 0, 0)) ?_ k
  delta am_step am_get
  try dsimp only
  rw [if_pos ha, hc]
  try dsimp only
  rw [if_pos rfl, hv]
theorem x_putf {p q ci : Nat} {fs : List Value} {v : Value} (hE : am_find M.2.2.2.2.2.2 pc = some (p, .putfield q, ci, r2)) (hp : p = pc) (ha : a < am_SB) (hc : h[a]? = some (.inr (ci, fs))) (hv : r2 < fs.length ∧ fits (am_ft ci r2) v = true ∧ narrow (am_ft ci r2) v = v ∧ ¬ v = .ref (am_SB + 1)) (hH : h.set a (.inr (ci, fs.set r2 v)) = H) (k : Ex d M scr (pc + 3, ls, st, H, c, n) res) : Ex d M scr (pc, ls, v :: .ref a :: st, h, c, n) res := by
  subst hp hH
  refine x_s hE rfl (S := (p + 3, ls, st, h.set a (.inr (ci, fs.set r2 v)), 0, 0)) ?_ k
  delta am_step am_put
  try dsimp only
  rw [if_pos ha, hc]
  exact if_pos ⟨rfl, hv⟩
theorem x_iald {p m : Nat} {f : Nat → Int32} (hE : am_find M.2.2.2.2.2.2 pc = some (p, .iaload, r1, r2)) (hp : p = pc) (ha : a < am_SB) (hc : h[a]? = some (.inl (0, m, .inl f))) (hi : ix x m = some i) (k : Ex d M scr (pc + 1, ls, .int (f i) :: st, h, c, n) res) : Ex d M scr (pc, ls, .int x :: .ref a :: st, h, c, n) res := by
  subst hp
  obtain ⟨h1, rfl⟩ := ix_some hi
  refine x_s hE rfl (S := (p + 1, ls, .int (f x.toNatClampNeg) :: st, h, 0, 0)) ?_ k
  delta am_step am_iald
  try dsimp only
  rw [if_pos ha, hc]
  exact if_pos h1
theorem x_bald {p m t : Nat} {f : Nat → Int32} (hE : am_find M.2.2.2.2.2.2 pc = some (p, .baload, r1, r2)) (hp : p = pc) (ha : a < am_SB) (hc : h[a]? = some (.inl (t, m, .inl f))) (ht : t = 1 ∨ t = 2) (hi : ix x m = some i) (k : Ex d M scr (pc + 1, ls, .int (f i) :: st, h, c, n) res) : Ex d M scr (pc, ls, .int x :: .ref a :: st, h, c, n) res := by
  subst hp
  obtain ⟨h1, rfl⟩ := ix_some hi
  refine x_s hE rfl (S := (p + 1, ls, .int (f x.toNatClampNeg) :: st, h, 0, 0)) ?_ k
  delta am_step am_bald
  try dsimp only
  rw [if_pos ha, hc]
  exact if_pos ⟨ht, h1⟩
theorem x_baldx {p m : Nat} {f : Nat → Int32} (hE : am_find M.2.2.2.2.2.2 pc = some (p, .baload, r1, r2)) (hp : p = pc) (ha : ¬ a < am_SB) (hc : am_oa a = some (m, f)) (hi : ix x m = some i) (k : Ex d M scr (pc + 1, ls, .int (f i) :: st, h, c, n) res) : Ex d M scr (pc, ls, .int x :: .ref a :: st, h, c, n) res := by
  subst hp
  obtain ⟨h1, rfl⟩ := ix_some hi
  refine x_s hE rfl (S := (p + 1, ls, .int (f x.toNatClampNeg) :: st, h, 0, 0)) ?_ k
  delta am_step am_bald
  try dsimp only
  rw [if_neg ha, hc]
  exact if_pos h1
theorem x_ialds {p m : Nat} {f : Nat → Int32} (hE : am_find M.2.2.2.2.2.2 pc = some (p, .iaload, r1, r2)) (hp : p = pc) (hs : scr = some (m, f)) (hi : ix x m = some i) (k : Ex d M scr (pc + 1, ls, .int (f i) :: st, h, c, n) res) : Ex d M scr (pc, ls, .int x :: .ref am_SB :: st, h, c, n) res := by
  subst hp
  obtain ⟨h1, rfl⟩ := ix_some hi
  refine x_s hE rfl (S := (p + 1, ls, .int (f x.toNatClampNeg) :: st, h, 0, 0)) ?_ k
  delta am_step am_iald
  try dsimp only
  rw [if_neg (Nat.lt_irrefl _), if_pos rfl, hs]
  exact if_pos h1
theorem x_aald {p m t : Nat} {f : Nat → Option Nat} (hE : am_find M.2.2.2.2.2.2 pc = some (p, .aaload, r1, r2)) (hp : p = pc) (ha : a < am_SB) (hc : h[a]? = some (.inl (t, m, .inr (.inr (.inr (.inr f)))))) (ht : 3 ≤ t ∧ t < 8) (hi : ix x m = some i) (k : Ex d M scr (pc + 1, ls, va_rf (f i) :: st, h, c, n) res) : Ex d M scr (pc, ls, .int x :: .ref a :: st, h, c, n) res := by
  subst hp
  obtain ⟨h1, rfl⟩ := ix_some hi
  refine x_s hE rfl (S := (p + 1, ls, va_rf (f x.toNatClampNeg) :: st, h, 0, 0)) ?_ k
  delta am_step am_aald
  try dsimp only
  rw [if_pos ha, hc]
  exact if_pos ⟨ht, h1⟩
theorem x_iast {p m : Nat} {f : Nat → Int32} (hE : am_find M.2.2.2.2.2.2 pc = some (p, .iastore, r1, r2)) (hp : p = pc) (ha : a < am_SB) (hc : h[a]? = some (.inl (0, m, .inl f))) (hi : ix x m = some i) (hH : h.set a (.inl (0, m, .inl (upd f i y))) = H) (k : Ex d M scr (pc + 1, ls, st, H, c, n) res) : Ex d M scr (pc, ls, .int y :: .int x :: .ref a :: st, h, c, n) res := by
  subst hp hH
  obtain ⟨h1, rfl⟩ := ix_some hi
  refine x_s hE rfl (S := (p + 1, ls, st, h.set a (.inl (0, m, .inl (upd f x.toNatClampNeg y))), 0, 0)) ?_ k
  delta am_step am_iast
  try dsimp only
  rw [if_pos ha, hc]
  exact if_pos h1
theorem x_bast {p m t : Nat} {f : Nat → Int32} (hE : am_find M.2.2.2.2.2.2 pc = some (p, .bastore, r1, r2)) (hp : p = pc) (ha : a < am_SB) (hc : h[a]? = some (.inl (t, m, .inl f))) (hi : ix x m = some i) (hy : (t = 1 ∧ (y = 0 ∨ y = 1)) ∨ (t = 2 ∧ y.toInt8.toInt32 = y)) (hH : h.set a (.inl (t, m, .inl (upd f i y))) = H) (k : Ex d M scr (pc + 1, ls, st, H, c, n) res) : Ex d M scr (pc, ls, .int y :: .int x :: .ref a :: st, h, c, n) res := by
  subst hp hH
  obtain ⟨h1, rfl⟩ := ix_some hi
  refine x_s hE rfl (S := (p + 1, ls, st, h.set a (.inl (t, m, .inl (upd f x.toNatClampNeg y))), 0, 0)) ?_ k
  delta am_step am_bast
  try dsimp only
  rw [if_pos ha, hc]
  exact if_pos ⟨h1, hy⟩
theorem x_aast {p m t : Nat} {f : Nat → Option Nat} {e : AC} (hE : am_find M.2.2.2.2.2.2 pc = some (p, .aastore, r1, r2)) (hp : p = pc) (ha : a < am_SB) (hb : b < am_SB) (hc : h[a]? = some (.inl (t, m, .inr (.inr (.inr (.inr f)))))) (hv : h[b]? = some e) (ht : am_mayb t e = true) (hi : ix x m = some i) (hH : h.set a (.inl (t, m, .inr (.inr (.inr (.inr (va_up f i (some b))))))) = H) (k : Ex d M scr (pc + 1, ls, st, H, c, n) res) : Ex d M scr (pc, ls, .ref b :: .int x :: .ref a :: st, h, c, n) res := by
  subst hp hH
  obtain ⟨h1, rfl⟩ := ix_some hi
  refine x_s hE rfl (S := (p + 1, ls, st, h.set a (.inl (t, m, .inr (.inr (.inr (.inr (va_up f x.toNatClampNeg (some b))))))), 0, 0)) ?_ k
  delta am_step am_aast
  try dsimp only
  rw [if_pos ⟨ha, hb⟩, hc, hv]
  exact if_pos ⟨ht, h1⟩
theorem x_aastn {p m : Nat} {f : Nat → Option Nat} (hE : am_find M.2.2.2.2.2.2 pc = some (p, .aastore, r1, r2)) (hp : p = pc) (ha : a < am_SB) (hc : h[a]? = some (.inl (5, m, .inr (.inr (.inr (.inr f)))))) (hi : ix x m = some i) (hH : h.set a (.inl (5, m, .inr (.inr (.inr (.inr (va_up f i none)))))) = H) (k : Ex d M scr (pc + 1, ls, st, H, c, n) res) : Ex d M scr (pc, ls, .null :: .int x :: .ref a :: st, h, c, n) res := by
  subst hp hH
  obtain ⟨h1, rfl⟩ := ix_some hi
  refine x_s hE rfl (S := (p + 1, ls, st, h.set a (.inl (5, m, .inr (.inr (.inr (.inr (va_up f x.toNatClampNeg none)))))), 0, 0)) ?_ k
  delta am_step am_aast
  try dsimp only
  rw [if_pos ha, hc]
  exact if_pos ⟨rfl, h1⟩
theorem x_alen {p m t : Nat} {A} (hE : am_find M.2.2.2.2.2.2 pc = some (p, .arraylength, r1, r2)) (hp : p = pc) (ha : a < am_SB) (hc : h[a]? = some (.inl (t, m, A))) (ht : t < 8) (k : Ex d M scr (pc + 1, ls, .int (Int32.ofNat m) :: st, h, c, n) res) : Ex d M scr (pc, ls, .ref a :: st, h, c, n) res := by
  subst hp
  refine x_s hE rfl (S := (p + 1, ls, .int (Int32.ofNat m) :: st, h, 0, 0)) ?_ k
  delta am_step am_alen
  try dsimp only
  rw [if_pos ha, hc]
  exact if_pos ht
theorem x_zt {p : Nat} {q} {cnd : ClassFile.Cond} (hE : am_find M.2.2.2.2.2.2 pc = some (p, .ifCond cnd q, r1, r2)) (hp : p = pc) (hb : am_cmp cnd x 0 = true) (k : Ex d M scr (r1, ls, st, h, c, n) res) : Ex d M scr (pc, ls, .int x :: st, h, c, n) res := by
  subst hp
  refine x_s hE rfl (S := (r1, ls, st, h, 0, 0)) ?_ k
  delta am_step am_z am_if
  try dsimp only
  rw [hb]
  rfl
theorem x_zf {p : Nat} {q} {cnd : ClassFile.Cond} (hE : am_find M.2.2.2.2.2.2 pc = some (p, .ifCond cnd q, r1, r2)) (hp : p = pc) (hb : am_cmp cnd x 0 = false) (k : Ex d M scr (pc + 3, ls, st, h, c, n) res) : Ex d M scr (pc, ls, .int x :: st, h, c, n) res := by
  subst hp
  refine x_s hE rfl (S := (p + 3, ls, st, h, 0, 0)) ?_ k
  delta am_step am_z am_if
  try dsimp only
  rw [hb]
  rfl
theorem x_ct {p : Nat} {q} {cnd : ClassFile.Cond} (hE : am_find M.2.2.2.2.2.2 pc = some (p, .if_icmp cnd q, r1, r2)) (hp : p = pc) (hb : am_cmp cnd x y = true) (k : Ex d M scr (r1, ls, st, h, c, n) res) : Ex d M scr (pc, ls, .int y :: .int x :: st, h, c, n) res := by
  subst hp
  refine x_s hE rfl (S := (r1, ls, st, h, 0, 0)) ?_ k
  delta am_step am_c2 am_if
  try dsimp only
  rw [hb]
  rfl
theorem x_cf {p : Nat} {q} {cnd : ClassFile.Cond} (hE : am_find M.2.2.2.2.2.2 pc = some (p, .if_icmp cnd q, r1, r2)) (hp : p = pc) (hb : am_cmp cnd x y = false) (k : Ex d M scr (pc + 3, ls, st, h, c, n) res) : Ex d M scr (pc, ls, .int y :: .int x :: st, h, c, n) res := by
  subst hp
  refine x_s hE rfl (S := (p + 3, ls, st, h, 0, 0)) ?_ k
  delta am_step am_c2 am_if
  try dsimp only
  rw [hb]
  rfl
theorem x_div {p : Nat} (hE : am_find M.2.2.2.2.2.2 pc = some (p, .idiv, r1, r2)) (hp : p = pc) (hy : ¬ y = 0) (k : Ex d M scr (pc + 1, ls, .int (x / y) :: st, h, c, n) res) : Ex d M scr (pc, ls, .int y :: .int x :: st, h, c, n) res := by
  subst hp
  refine x_s hE rfl (S := (p + 1, ls, .int (x / y) :: st, h, 0, 0)) ?_ k
  delta am_step am_dv
  try dsimp only
  rw [if_neg hy]
theorem x_rem {p : Nat} (hE : am_find M.2.2.2.2.2.2 pc = some (p, .irem, r1, r2)) (hp : p = pc) (hy : ¬ y = 0) (k : Ex d M scr (pc + 1, ls, .int (x - x / y * y) :: st, h, c, n) res) : Ex d M scr (pc, ls, .int y :: .int x :: st, h, c, n) res := by
  subst hp
  refine x_s hE rfl (S := (p + 1, ls, .int (x - x / y * y) :: st, h, 0, 0)) ?_ k
  delta am_step am_dv
  try dsimp only
  rw [if_neg hy]
theorem x_new {p q : Nat} (hE : am_find M.2.2.2.2.2.2 pc = some (p, .new q, r1, r2)) (hp : p = pc) (hl : h.length < am_SB) (hH : h ++ [.inr (r1, am_fd r1)] = H) (hr : r1 < 12) (k : Ex d M scr (pc + 3, ls, .ref h.length :: st, H, c + 1, n + (am_fd r1).length) res) : Ex d M scr (pc, ls, st, h, c, n) res := by
  subst hp hH
  have hk : am_kind (Instr.new q) r1 = 0 := by
    simp only [am_kind]; rw [if_neg (by omega)]
  refine x_s hE hk (S := (p + 3, ls, .ref h.length :: st, h ++ [.inr (r1, am_fd r1)], 1, (am_fd r1).length)) ?_ k
  delta am_step am_new
  try dsimp only
  rw [if_pos ⟨hl, hr⟩]
theorem x_copy {p q m m2 t : Nat} {z : Int32} {f g : Nat → Int32} (hE : am_find M.2.2.2.2.2.2 pc = some (p, .invokestatic q, 900, r2)) (hp : p = pc) (ha : a < am_SB) (hb : b < am_SB) (hst : (st.map Value.category).sum ≤ 8) (hcb : h[b]? = some (.inl (t, m, .inl f))) (hca : h[a]? = some (.inl (t, m2, .inl g))) (ht : t = 0 ∨ ((t = 1 ∨ t = 2) ∧ ∀ j, j < m → fits (am_el t) (.int (f j)) = true))
    (hx : 0 ≤ x.toInt ∧ 0 ≤ y.toInt ∧ 0 ≤ z.toInt ∧ x.toNatClampNeg + z.toNatClampNeg ≤ m ∧ y.toNatClampNeg + z.toNatClampNeg ≤ m2)
    (hH : h.set a (.inl (t, m2, .inl (va_cpy f g x.toNatClampNeg y.toNatClampNeg z.toNatClampNeg))) = H) (k : Ex d M scr (pc + 3, ls, st, H, c, n) res) : Ex d M scr (pc, ls, .int z :: .int y :: .ref a :: .int x :: .ref b :: st, h, c, n) res := by
  subst hp hH
  refine x_s hE rfl (S := (p + 3, ls, st, h.set a (.inl (t, m2, .inl (va_cpy f g x.toNatClampNeg y.toNatClampNeg z.toNatClampNeg))), 0, 0)) ?_ k
  delta am_step am_copy
  try dsimp only
  rw [if_neg (by decide), if_neg (by decide), if_pos ⟨ha, hst⟩, if_pos hb, hcb, hca]
  exact if_pos ⟨⟨rfl, ht⟩, hx⟩
theorem x_copyo {p q m m2 : Nat} {z : Int32} {f g : Nat → Option Nat} (hE : am_find M.2.2.2.2.2.2 pc = some (p, .invokestatic q, 900, r2)) (hp : p = pc) (ha : a < am_SB) (hb : b < am_SB) (hst : (st.map Value.category).sum ≤ 8) (hcb : h[b]? = some (.inl (5, m, .inr (.inr (.inr (.inr f)))))) (hca : h[a]? = some (.inl (5, m2, .inr (.inr (.inr (.inr g))))))
    (hx : 0 ≤ x.toInt ∧ 0 ≤ y.toInt ∧ 0 ≤ z.toInt ∧ x.toNatClampNeg + z.toNatClampNeg ≤ m ∧ y.toNatClampNeg + z.toNatClampNeg ≤ m2)
    (hH : h.set a (.inl (5, m2, .inr (.inr (.inr (.inr (va_cpy f g x.toNatClampNeg y.toNatClampNeg z.toNatClampNeg)))))) = H) (k : Ex d M scr (pc + 3, ls, st, H, c, n) res) : Ex d M scr (pc, ls, .int z :: .int y :: .ref a :: .int x :: .ref b :: st, h, c, n) res := by
  subst hp hH
  refine x_s hE rfl (S := (p + 3, ls, st, h.set a (.inl (5, m2, .inr (.inr (.inr (.inr (va_cpy f g x.toNatClampNeg y.toNatClampNeg z.toNatClampNeg)))))), 0, 0)) ?_ k
  delta am_step am_copy
  try dsimp only
  rw [if_neg (by decide), if_neg (by decide), if_pos ⟨ha, hst⟩, if_pos hb, hcb, hca]
  exact if_pos ⟨⟨rfl, rfl⟩, hx⟩
theorem x_copyx {p q m m2 : Nat} {z : Int32} {f g : Nat → Int32} (hE : am_find M.2.2.2.2.2.2 pc = some (p, .invokestatic q, 900, r2)) (hp : p = pc) (ha : a < am_SB) (hb : ¬ b < am_SB) (hst : (st.map Value.category).sum ≤ 8) (hcb : am_oa b = some (m, f)) (hca : h[a]? = some (.inl (2, m2, .inl g)))
    (hx : 0 ≤ x.toInt ∧ 0 ≤ y.toInt ∧ 0 ≤ z.toInt ∧ x.toNatClampNeg + z.toNatClampNeg ≤ m ∧ y.toNatClampNeg + z.toNatClampNeg ≤ m2)
    (hH : h.set a (.inl (2, m2, .inl (va_cpy f g x.toNatClampNeg y.toNatClampNeg z.toNatClampNeg))) = H) (k : Ex d M scr (pc + 3, ls, st, H, c, n) res) : Ex d M scr (pc, ls, .int z :: .int y :: .ref a :: .int x :: .ref b :: st, h, c, n) res := by
  subst hp hH
  refine x_s hE rfl (S := (p + 3, ls, st, h.set a (.inl (2, m2, .inl (va_cpy f g x.toNatClampNeg y.toNatClampNeg z.toNatClampNeg))), 0, 0)) ?_ k
  delta am_step am_copy
  try dsimp only
  rw [if_neg (by decide), if_neg (by decide), if_pos ⟨ha, hst⟩, if_neg hb, hcb, hca]
  exact if_pos ⟨rfl, hx⟩
/-- an array's copy -/
theorem x_clone {p q m : Nat} {f : Nat → Int32} (hE : am_find M.2.2.2.2.2.2 pc = some (p, .invokevirtual q, 904, r2)) (hp : p = pc) (ha : a < am_SB) (hl : h.length < am_SB) (hst : (st.map Value.category).sum ≤ 8) (hc : h[a]? = some (.inl (0, m, .inl f))) (hH : h ++ [.inl (0, m, .inl f)] = H) (k : Ex d M scr (pc + 3, ls, .ref h.length :: st, H, c + 1, n + m) res) : Ex d M scr (pc, ls, .ref a :: st, h, c, n) res := by
  subst hp hH
  refine x_s hE rfl (S := (p + 3, ls, .ref h.length :: st, h ++ [.inl (0, m, .inl f)], 1, m)) ?_ k
  delta am_step am_clone
  try dsimp only
  rw [if_pos rfl, if_pos ⟨ha, hl, hst⟩, hc]
  exact if_pos ⟨rfl, Or.inl rfl⟩
theorem x_cloneb {p q m : Nat} {f : Nat → Int32} (hE : am_find M.2.2.2.2.2.2 pc = some (p, .invokevirtual q, 905, r2)) (hp : p = pc) (ha : a < am_SB) (hl : h.length < am_SB) (hst : (st.map Value.category).sum ≤ 8) (hc : h[a]? = some (.inl (2, m, .inl f))) (hf : ∀ j, j < m → (f j).toInt8.toInt32 = f j) (hH : h ++ [.inl (2, m, .inl f)] = H) (k : Ex d M scr (pc + 3, ls, .ref h.length :: st, H, c + 1, n + m) res) : Ex d M scr (pc, ls, .ref a :: st, h, c, n) res := by
  subst hp hH
  refine x_s hE rfl (S := (p + 3, ls, .ref h.length :: st, h ++ [.inl (2, m, .inl f)], 1, m)) ?_ k
  delta am_step am_clone
  try dsimp only
  rw [if_neg (by decide), if_pos ⟨ha, hl, hst⟩, hc]
  exact if_pos ⟨rfl, Or.inr ⟨rfl, hf⟩⟩
theorem x_castO {p q : Nat} {fs : List Value} (hE : am_find M.2.2.2.2.2.2 pc = some (p, .checkcast q, 7, r2)) (hp : p = pc) (ha : a < am_SB) (hc : h[a]? = some (.inr (7, fs))) (k : Ex d M scr (pc + 3, ls, .ref a :: st, h, c, n) res) : Ex d M scr (pc, ls, .ref a :: st, h, c, n) res := by
  subst hp
  refine x_s hE rfl (S := (p + 3, ls, .ref a :: st, h, 0, 0)) ?_ k
  delta am_step am_cast
  try dsimp only
  rw [if_pos ha, hc]
  exact if_pos ⟨rfl, rfl⟩
theorem x_castA {p q m t : Nat} {A} (hE : am_find M.2.2.2.2.2.2 pc = some (p, .checkcast q, 100 + t, r2)) (hp : p = pc) (ha : a < am_SB) (hc : h[a]? = some (.inl (t, m, A))) (ht : t = 0 ∨ t = 2) (k : Ex d M scr (pc + 3, ls, .ref a :: st, h, c, n) res) : Ex d M scr (pc, ls, .ref a :: st, h, c, n) res := by
  subst hp
  refine x_s hE rfl (S := (p + 3, ls, .ref a :: st, h, 0, 0)) ?_ k
  delta am_step am_cast
  try dsimp only
  rw [if_pos ha, hc]
  exact if_pos ⟨rfl, ht⟩
theorem x_newm {p q w N K : Nat} (hE : am_find M.2.2.2.2.2.2 pc = some (p, .multianewarray q w, r1, r2)) (hp : p = pc) (hN : x.toNatClampNeg = N) (hK : y.toNatClampNeg = K) (hl : h.length + 1 + N ≤ am_SB) (hx : 0 ≤ x.toInt ∧ x.toInt < 1000) (hy : 0 ≤ y.toInt ∧ y.toInt < 1000) (hr : r1 = 6 ∨ r1 = 7) (hH : h ++ (.inl (r1, N, .inr (.inr (.inr (.inr (fun j => if j < N then some (h.length + 1 + j) else none))))) :: am_rows (7 - r1) K N) = H) (k : Ex d M scr (pc + 4, ls, .ref h.length :: st, H, c + (1 + N), n + (N + N * K)) res) : Ex d M scr (pc, ls, .int y :: .int x :: st, h, c, n) res := by
  subst hp hH hN hK
  refine x_s hE rfl (S := (p + 4, ls, .ref h.length :: st, h ++ (.inl (r1, x.toNatClampNeg, .inr (.inr (.inr (.inr (fun j => if j < x.toNatClampNeg then some (h.length + 1 + j) else none))))) :: am_rows (7 - r1) y.toNatClampNeg x.toNatClampNeg), 1 + x.toNatClampNeg, x.toNatClampNeg + x.toNatClampNeg * y.toNatClampNeg)) ?_ k
  delta am_step am_newm
  try dsimp only
  exact if_pos ⟨hl, hx, hy, hr⟩
/-- one and the same -/
theorem x_acq {p : Nat} {q} (hE : am_find M.2.2.2.2.2.2 pc = some (p, .if_acmp .eq q, r1, r2)) (hp : p = pc) (ha : ¬ a = am_SB + 1) (k : Ex d M scr (r1, ls, st, h, c, n) res) : Ex d M scr (pc, ls, .ref a :: .ref a :: st, h, c, n) res := by
  subst hp
  refine x_s hE rfl (S := (r1, ls, st, h, 0, 0)) ?_ k
  delta am_step am_acq
  try dsimp only
  exact if_pos ⟨rfl, ha⟩
theorem x_ldx {p : Nat} (hE : am_find M.2.2.2.2.2.2 pc = some (p, .aload i, r1, r2)) (hp : p = pc) (hl : ls[i]? = some (some (.ref a))) (ha : ¬ a = am_SB + 1) (k : Ex d M scr (pc + 2, ls, .ref a :: st, h, c, n) res) : Ex d M scr (pc, ls, st, h, c, n) res := by
  subst hp
  refine x_s hE rfl (S := (p + 2, ls, .ref a :: st, h, 0, 0)) ?_ k
  delta am_step am_lda
  try dsimp only
  rw [hl]
theorem x_ldxn {p : Nat} {i : Fin 4} (hE : am_find M.2.2.2.2.2.2 pc = some (p, .aload_n i, r1, r2)) (hp : p = pc) (hl : ls[(i : Nat)]? = some (some (.ref a))) (ha : ¬ a = am_SB + 1) (k : Ex d M scr (pc + 1, ls, .ref a :: st, h, c, n) res) : Ex d M scr (pc, ls, st, h, c, n) res := by
  subst hp
  refine x_s hE rfl (S := (p + 1, ls, .ref a :: st, h, 0, 0)) ?_ k
  delta am_step am_lda
  try dsimp only
  rw [hl]
theorem x_stx {p : Nat} {ls2 : ALs} (hE : am_find M.2.2.2.2.2.2 pc = some (p, .astore i, r1, r2)) (hp : p = pc) (hl : i < ls.length) (ha : ¬ a = am_SB + 1) (h2 : am_set1 ls i (.ref a) = ls2) (k : Ex d M scr (pc + 2, ls2, st, h, c, n) res) : Ex d M scr (pc, ls, .ref a :: st, h, c, n) res := by
  subst hp h2
  refine x_s hE rfl (S := (p + 2, am_set1 ls i (.ref a), st, h, 0, 0)) ?_ k
  delta am_step am_sta
  try dsimp only
  exact if_pos hl
theorem x_stxn {p : Nat} {i : Fin 4} {ls2 : ALs} (hE : am_find M.2.2.2.2.2.2 pc = some (p, .astore_n i, r1, r2)) (hp : p = pc) (hl : (i : Nat) < ls.length) (ha : ¬ a = am_SB + 1) (h2 : am_set1 ls i (.ref a) = ls2) (k : Ex d M scr (pc + 1, ls2, st, h, c, n) res) : Ex d M scr (pc, ls, .ref a :: st, h, c, n) res := by
  subst hp h2
  refine x_s hE rfl (S := (p + 1, am_set1 ls i (.ref a), st, h, 0, 0)) ?_ k
  delta am_step am_sta
  try dsimp only
  exact if_pos hl
/-- a text's fields -/
theorem x_getx {p q : Nat} {v : Value} (hE : am_find M.2.2.2.2.2.2 pc = some (p, .getfield q, 8, r2)) (hp : p = pc) (ha : ¬ a < am_SB) (ht : am_isT a) (hv : (r2 = 0 ∧ v = .ref (a + 1)) ∨ (r2 = 1 ∧ v = .int 0)) (k : Ex d M scr (pc + 3, ls, v :: st, h, c, n) res) : Ex d M scr (pc, ls, .ref a :: st, h, c, n) res := by
  subst hp
  refine x_s hE rfl (S := (p + 3, ls, v :: st, h, 0, 0)) ?_ k
  delta am_step am_get
  try dsimp only
  rw [if_neg ha, if_pos ⟨ht, rfl⟩]
  rcases hv with ⟨rfl, rfl⟩ | ⟨rfl, rfl⟩ <;> rfl
theorem x_alenx {p m : Nat} {f : Nat → Int32} (hE : am_find M.2.2.2.2.2.2 pc = some (p, .arraylength, r1, r2)) (hp : p = pc) (ha : ¬ a < am_SB) (h1 : ¬ a = am_SB) (h2 : ¬ a = am_SB + 2) (hc : am_oa a = some (m, f)) (k : Ex d M scr (pc + 1, ls, .int (Int32.ofNat m) :: st, h, c, n) res) : Ex d M scr (pc, ls, .ref a :: st, h, c, n) res := by
  subst hp
  refine x_s hE rfl (S := (p + 1, ls, .int (Int32.ofNat m) :: st, h, 0, 0)) ?_ k
  delta am_step am_alen
  try dsimp only
  rw [if_neg ha, if_neg h1, if_neg h2, hc]
theorem x_alens {p m : Nat} {f : Nat → Int32} (hE : am_find M.2.2.2.2.2.2 pc = some (p, .arraylength, r1, r2)) (hp : p = pc) (hs : scr = some (m, f)) (k : Ex d M scr (pc + 1, ls, .int (Int32.ofNat m) :: st, h, c, n) res) : Ex d M scr (pc, ls, .ref am_SB :: st, h, c, n) res := by
  subst hp
  refine x_s hE rfl (S := (p + 1, ls, .int (Int32.ofNat m) :: st, h, 0, 0)) ?_ k
  delta am_step am_alen
  try dsimp only
  rw [if_neg (Nat.lt_irrefl _), if_pos rfl, hs]
theorem x_alene {p : Nat} (hE : am_find M.2.2.2.2.2.2 pc = some (p, .arraylength, r1, r2)) (hp : p = pc) (k : Ex d M scr (pc + 1, ls, .int 0 :: st, h, c, n) res) : Ex d M scr (pc, ls, .ref (am_SB + 2) :: st, h, c, n) res := by
  subst hp
  refine x_s hE rfl (S := (p + 1, ls, .int 0 :: st, h, 0, 0)) ?_ k
  delta am_step am_alen
  try dsimp only
  rw [if_neg (Nat.not_lt.mpr (Nat.le_add_right _ 2)), if_neg (show ¬ am_SB + 2 = am_SB by generalize am_SB = s; omega), if_pos rfl]
theorem x_obj {p q : Nat} (hE : am_find M.2.2.2.2.2.2 pc = some (p, .invokespecial q, 901, r2)) (hp : p = pc) (ha : a < am_SB) (hst : (st.map Value.category).sum ≤ 8) (k : Ex d M scr (pc + 3, ls, st, h, c, n) res) : Ex d M scr (pc, ls, .ref a :: st, h, c, n) res := by
  subst hp
  refine x_s hE rfl (S := (p + 3, ls, st, h, 0, 0)) ?_ k
  delta am_step am_obj
  try dsimp only
  exact if_pos ⟨ha, hst⟩
/-- a loop: more or an end -/
def lw {S X : Type} (f : S → Option (S ⊕ X)) : Nat → S → Option X
  | 0, _ => none
  | k + 1, s => match f s with
    | none => none
    | some (.inl t) => lw f k t
    | some (.inr x) => some x
theorem x_lw {S X : Type} {f : S → Option (S ⊕ X)} {P : S → ASt} {Q : X → Prop} (hb : ∀ s o, f s = some o → (∀ t, o = .inl t → Ex d M scr (P t) res) → (∀ x, o = .inr x → Q x) → Ex d M scr (P s) res) : ∀ (k : Nat) (s : S) (x : X), lw f k s = some x → Q x → Ex d M scr (P s) res
  | 0, _, _, hr, _ => by cases hr
  | k + 1, s, x, hr, hq => by
    unfold lw at hr
    split at hr
    · cases hr
    · next t ht => exact hb s _ ht (fun u hu => by cases hu; exact x_lw hb k t x hr hq) (fun _ hu => by cases hu)
    · next y hy =>
      cases hr
      exact hb s _ hy (fun _ hu => by cases hu) (fun _ hu => by cases hu; exact hq)
theorem ite_some {α : Type} {P : Prop} [Decidable P] {u v : Option α} {o : α} (hr : (if P then u else v) = some o) : (P ∧ u = some o) ∨ (¬ P ∧ v = some o) := by
  by_cases hP : P
  · rw [if_pos hP] at hr; exact .inl ⟨hP, hr⟩
  · rw [if_neg hP] at hr; exact .inr ⟨hP, hr⟩
theorem hp_at {N : Nat} {L : List AC} {e : AC} (hh : b + N ≤ h.length) (hl : L.length = N) (hc : L[i]? = some e) : (hput h b L)[b + i]? = some e := by
  subst hl
  have hi : i < L.length := by
    rcases Nat.lt_or_ge i L.length with h1 | h1
    · exact h1
    · rw [List.getElem?_eq_none h1] at hc; cases hc
  rw [hput_get hh, if_pos (by omega), show b + i - b = i by omega, hc]
theorem hp_set {N : Nat} {L L2 : List AC} {e : AC} (hh : b + N ≤ h.length) (hl : L.length = N) (hi : i < N) (hL : L.set i e = L2) : (hput h b L).set (b + i) e = hput h b L2 := by
  subst hl
  exact hput_set hh hi hL
theorem h_lt {N : Nat} (hb : b + N ≤ am_SB) (hi : i < N) : b + i < am_SB := by omega
end RW
/-! ===== A SLOT FORGOTTEN: the run goes on as well ===== -/
theorem Lq.nil : Lq [] [] := Lq.refl []
theorem Lq.s {ls ls2 : ALs} {v : Option Value} (q : Lq ls ls2) : Lq (v :: ls) (v :: ls2) := by
  refine ⟨by rw [List.length_cons, List.length_cons, q.1], fun i w h => ?_⟩
  cases i with
  | zero => exact h
  | succ i => exact q.2 i w h
theorem Lq.n {ls ls2 : ALs} {v : Option Value} (q : Lq ls ls2) : Lq (none :: ls) (v :: ls2) := by
  refine ⟨by rw [List.length_cons, List.length_cons, q.1], fun i w h => ?_⟩
  cases i with
  | zero => cases h
  | succ i => exact q.2 i w h
