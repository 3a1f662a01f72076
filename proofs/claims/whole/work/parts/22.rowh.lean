/-! ===== ROWS OF RUNS THAT TOUCH THE HEAP, AND BRANCHES ===== -/
/-- an index inside -/
def ix (x : Int32) (n : Nat) : Option Nat := if 0 ≤ x.toInt ∧ x.toInt < n then some x.toNatClampNeg else none
theorem ix_some {x : Int32} {n i : Nat} (h : ix x n = some i) : (0 ≤ x.toInt ∧ x.toInt < n) ∧ x.toNatClampNeg = i := by
  unfold ix at h
  split at h
  · next h1 => cases h; exact ⟨h1, rfl⟩
  · cases h
theorem bd_some {α β : Type} {o : Option α} {f : α → Option β} {r : β} (h : o.bind f = some r) : ∃ a, o = some a ∧ f a = some r := by
  cases o with
  | none => cases h
  | some a => exact ⟨a, rfl, h⟩
section RW
variable {d : Nat} {M : AMe} {scr : ASc} {res : ARe} {pc r1 r2 a b i j : Nat} {ls : ALs} {st : List Value} {h H : AHp} {c n : Nat} {x y : Int32}
theorem x_lda {p : Nat} (hE : am_find M.2.2.2.2.2.2 pc = some (p, .aload i, r1, r2)) (hp : p = pc) (hl : ls[i]? = some (some (.ref a))) (ha : a < am_SB) (k : Ex d M scr (pc + 2, ls, .ref a :: st, h, c, n) res) : Ex d M scr (pc, ls, st, h, c, n) res := by
  subst hp
  refine x_s hE rfl (S := (p + 2, ls, .ref a :: st, h, 0, 0)) ?_ k
  delta am_step am_lda
  try dsimp only
  rw [hl]
  try dsimp only
  rw [if_neg (show ¬ a = am_SB + 1 by omega)]
theorem x_ldan {p : Nat} {i : Fin 4} (hE : am_find M.2.2.2.2.2.2 pc = some (p, .aload_n i, r1, r2)) (hp : p = pc) (hl : ls[(i : Nat)]? = some (some (.ref a))) (ha : a < am_SB) (k : Ex d M scr (pc + 1, ls, .ref a :: st, h, c, n) res) : Ex d M scr (pc, ls, st, h, c, n) res := by
  subst hp
  refine x_s hE rfl (S := (p + 1, ls, .ref a :: st, h, 0, 0)) ?_ k
  delta am_step am_lda
  try dsimp only
  rw [hl]
  try dsimp only
  rw [if_neg (show ¬ a = am_SB + 1 by omega)]
theorem x_getf {p q ci : Nat} {fs : List Value} {v : Value} (hE : am_find M.2.2.2.2.2.2 pc = some (p, .getfield q, ci, r2)) (hp : p = pc) (ha : a < am_SB) (hc : h[a]? = some (.inr (ci, fs))) (hv : fs[r2]? = some v) (k : Ex d M scr (pc + 3, ls, v :: st, h, c, n) res) : Ex d M scr (pc, ls, .ref a :: st, h, c, n) res := by
  subst hp
  refine x_s hE rfl (S := (p + 3, ls, v :: st, h, 0, 0)) ?_ k
  delta am_step am_get
  try dsimp only
  rw [if_pos ha, hc]
  try dsimp only
  rw [if_pos rfl, hv]
theorem x_putf {p q ci : Nat} {fs : List Value} {v : Value} (hE : am_find M.2.2.2.2.2.2 pc = some (p, .putfield q, ci, r2)) (hp : p = pc) (ha : a < am_SB) (hc : h[a]? = some (.inr (ci, fs))) (hv : r2 < fs.length ∧ fits (am_ft ci r2) v = true ∧ narrow (am_ft ci r2) v = v ∧ ¬ v = .ref (am_SB + 1)) (hH : h.set a (.inr (ci, fs.set r2 v)) = H) (k : Ex d M scr (pc + 3, ls, st, H, c, n) res) : Ex d M scr (pc, ls, v :: .ref a :: st, h, c, n) res := by
  subst hp hH
  refine x_s hE rfl (S := (p + 3, ls, st, h.set a (.inr (ci, fs.set r2 v)), 0, 0)) ?_ k
  delta am_step am_put
  try dsimp only
  rw [if_pos ha, hc]
  exact if_pos ⟨rfl, hv⟩
theorem x_iald {p m : Nat} {f : Nat → Int32} (hE : am_find M.2.2.2.2.2.2 pc = some (p, .iaload, r1, r2)) (hp : p = pc) (ha : a < am_SB) (hc : h[a]? = some (.inl (0, m, .inl f))) (hi : ix x m = some i) (k : Ex d M scr (pc + 1, ls, .int (f i) :: st, h, c, n) res) : Ex d M scr (pc, ls, .int x :: .ref a :: st, h, c, n) res := by
  subst hp
  obtain ⟨h1, rfl⟩ := ix_some hi
  refine x_s hE rfl (S := (p + 1, ls, .int (f x.toNatClampNeg) :: st, h, 0, 0)) ?_ k
  delta am_step am_iald
  try dsimp only
  rw [if_pos ha, hc]
  exact if_pos h1
theorem x_bald {p m : Nat} {f : Nat → Int32} (hE : am_find M.2.2.2.2.2.2 pc = some (p, .baload, r1, r2)) (hp : p = pc) (ha : a < am_SB) (hc : h[a]? = some (.inl (1, m, .inl f))) (hi : ix x m = some i) (k : Ex d M scr (pc + 1, ls, .int (f i) :: st, h, c, n) res) : Ex d M scr (pc, ls, .int x :: .ref a :: st, h, c, n) res := by
  subst hp
  obtain ⟨h1, rfl⟩ := ix_some hi
  refine x_s hE rfl (S := (p + 1, ls, .int (f x.toNatClampNeg) :: st, h, 0, 0)) ?_ k
  delta am_step am_bald
  try dsimp only
  rw [if_pos ha, hc]
  exact if_pos h1
theorem x_lald {p m : Nat} {f : Nat → Int64} (hE : am_find M.2.2.2.2.2.2 pc = some (p, .laload, r1, r2)) (hp : p = pc) (ha : a < am_SB) (hc : h[a]? = some (.inl (2, m, .inr (.inl f)))) (hi : ix x m = some i) (k : Ex d M scr (pc + 1, ls, .long (f i) :: st, h, c, n) res) : Ex d M scr (pc, ls, .int x :: .ref a :: st, h, c, n) res := by
  subst hp
  obtain ⟨h1, rfl⟩ := ix_some hi
  refine x_s hE rfl (S := (p + 1, ls, .long (f x.toNatClampNeg) :: st, h, 0, 0)) ?_ k
  delta am_step am_lald
  try dsimp only
  rw [if_pos ha, hc]
  exact if_pos h1
theorem x_aald {p m t : Nat} {f : Nat → Option Nat} (hE : am_find M.2.2.2.2.2.2 pc = some (p, .aaload, r1, r2)) (hp : p = pc) (ha : a < am_SB) (hc : h[a]? = some (.inl (t, m, .inr (.inr (.inr (.inr f)))))) (ht : t = 3 ∨ t = 4) (hi : ix x m = some i) (k : Ex d M scr (pc + 1, ls, va_rf (f i) :: st, h, c, n) res) : Ex d M scr (pc, ls, .int x :: .ref a :: st, h, c, n) res := by
  subst hp
  obtain ⟨h1, rfl⟩ := ix_some hi
  refine x_s hE rfl (S := (p + 1, ls, va_rf (f x.toNatClampNeg) :: st, h, 0, 0)) ?_ k
  delta am_step am_aald
  try dsimp only
  rw [if_pos ha, hc]
  exact if_pos ⟨ht, h1⟩
theorem x_iast {p m : Nat} {f : Nat → Int32} (hE : am_find M.2.2.2.2.2.2 pc = some (p, .iastore, r1, r2)) (hp : p = pc) (ha : a < am_SB) (hc : h[a]? = some (.inl (0, m, .inl f))) (hi : ix x m = some i) (hH : h.set a (.inl (0, m, .inl (upd f i y))) = H) (k : Ex d M scr (pc + 1, ls, st, H, c, n) res) : Ex d M scr (pc, ls, .int y :: .int x :: .ref a :: st, h, c, n) res := by
  subst hp hH
  obtain ⟨h1, rfl⟩ := ix_some hi
  refine x_s hE rfl (S := (p + 1, ls, st, h.set a (.inl (0, m, .inl (upd f x.toNatClampNeg y))), 0, 0)) ?_ k
  delta am_step am_iast
  try dsimp only
  rw [if_pos ha, hc]
  exact if_pos h1
theorem x_bast {p m : Nat} {f : Nat → Int32} (hE : am_find M.2.2.2.2.2.2 pc = some (p, .bastore, r1, r2)) (hp : p = pc) (ha : a < am_SB) (hc : h[a]? = some (.inl (1, m, .inl f))) (hi : ix x m = some i) (hy : y = 0 ∨ y = 1) (hH : h.set a (.inl (1, m, .inl (upd f i y))) = H) (k : Ex d M scr (pc + 1, ls, st, H, c, n) res) : Ex d M scr (pc, ls, .int y :: .int x :: .ref a :: st, h, c, n) res := by
  subst hp hH
  obtain ⟨h1, rfl⟩ := ix_some hi
  refine x_s hE rfl (S := (p + 1, ls, st, h.set a (.inl (1, m, .inl (upd f x.toNatClampNeg y))), 0, 0)) ?_ k
  delta am_step am_bast
  try dsimp only
  rw [if_pos ha, hc]
  exact if_pos ⟨h1.1, h1.2, hy⟩
theorem x_last {p m : Nat} {f : Nat → Int64} {z : Int64} (hE : am_find M.2.2.2.2.2.2 pc = some (p, .lastore, r1, r2)) (hp : p = pc) (ha : a < am_SB) (hc : h[a]? = some (.inl (2, m, .inr (.inl f)))) (hi : ix x m = some i) (hH : h.set a (.inl (2, m, .inr (.inl (vp_updL f i z)))) = H) (k : Ex d M scr (pc + 1, ls, st, H, c, n) res) : Ex d M scr (pc, ls, .long z :: .int x :: .ref a :: st, h, c, n) res := by
  subst hp hH
  obtain ⟨h1, rfl⟩ := ix_some hi
  refine x_s hE rfl (S := (p + 1, ls, st, h.set a (.inl (2, m, .inr (.inl (vp_updL f x.toNatClampNeg z)))), 0, 0)) ?_ k
  delta am_step am_last
  try dsimp only
  rw [if_pos ha, hc]
  exact if_pos h1
theorem x_aast {p m t ci : Nat} {f : Nat → Option Nat} {fs : List Value} (hE : am_find M.2.2.2.2.2.2 pc = some (p, .aastore, r1, r2)) (hp : p = pc) (ha : a < am_SB) (hb : b < am_SB) (hc : h[a]? = some (.inl (t, m, .inr (.inr (.inr (.inr f)))))) (hv : h[b]? = some (.inr (ci, fs))) (ht : (t = 3 ∧ ci = 0) ∨ (t = 4 ∧ ci = 1)) (hi : ix x m = some i) (hH : h.set a (.inl (t, m, .inr (.inr (.inr (.inr (va_up f i (some b))))))) = H) (k : Ex d M scr (pc + 1, ls, st, H, c, n) res) : Ex d M scr (pc, ls, .ref b :: .int x :: .ref a :: st, h, c, n) res := by
  subst hp hH
  obtain ⟨h1, rfl⟩ := ix_some hi
  refine x_s hE rfl (S := (p + 1, ls, st, h.set a (.inl (t, m, .inr (.inr (.inr (.inr (va_up f x.toNatClampNeg (some b))))))), 0, 0)) ?_ k
  delta am_step am_aast
  try dsimp only
  rw [if_pos ⟨ha, hb⟩, hc, hv]
  exact if_pos ⟨ht, h1⟩
theorem x_alen {p m t : Nat} {A} (hE : am_find M.2.2.2.2.2.2 pc = some (p, .arraylength, r1, r2)) (hp : p = pc) (ha : a < am_SB) (hc : h[a]? = some (.inl (t, m, A))) (ht : t < 5) (k : Ex d M scr (pc + 1, ls, .int (Int32.ofNat m) :: st, h, c, n) res) : Ex d M scr (pc, ls, .ref a :: st, h, c, n) res := by
  subst hp
  refine x_s hE rfl (S := (p + 1, ls, .int (Int32.ofNat m) :: st, h, 0, 0)) ?_ k
  delta am_step am_alen
  try dsimp only
  rw [if_pos ha, hc]
  exact if_pos ht
theorem x_zt {p : Nat} {q} {cnd : ClassFile.Cond} (hE : am_find M.2.2.2.2.2.2 pc = some (p, .ifCond cnd q, r1, r2)) (hp : p = pc) (hb : am_cmp cnd x 0 = true) (k : Ex d M scr (r1, ls, st, h, c, n) res) : Ex d M scr (pc, ls, .int x :: st, h, c, n) res := by
  subst hp
  refine x_s hE rfl (S := (r1, ls, st, h, 0, 0)) ?_ k
  delta am_step am_z am_if
  try dsimp only
  rw [hb]
  rfl
theorem x_zf {p : Nat} {q} {cnd : ClassFile.Cond} (hE : am_find M.2.2.2.2.2.2 pc = some (p, .ifCond cnd q, r1, r2)) (hp : p = pc) (hb : am_cmp cnd x 0 = false) (k : Ex d M scr (pc + 3, ls, st, h, c, n) res) : Ex d M scr (pc, ls, .int x :: st, h, c, n) res := by
  subst hp
  refine x_s hE rfl (S := (p + 3, ls, st, h, 0, 0)) ?_ k
  delta am_step am_z am_if
  try dsimp only
  rw [hb]
  rfl
theorem x_ct {p : Nat} {q} {cnd : ClassFile.Cond} (hE : am_find M.2.2.2.2.2.2 pc = some (p, .if_icmp cnd q, r1, r2)) (hp : p = pc) (hb : am_cmp cnd x y = true) (k : Ex d M scr (r1, ls, st, h, c, n) res) : Ex d M scr (pc, ls, .int y :: .int x :: st, h, c, n) res := by
  subst hp
  refine x_s hE rfl (S := (r1, ls, st, h, 0, 0)) ?_ k
  delta am_step am_c2 am_if
  try dsimp only
  rw [hb]
  rfl
theorem x_cf {p : Nat} {q} {cnd : ClassFile.Cond} (hE : am_find M.2.2.2.2.2.2 pc = some (p, .if_icmp cnd q, r1, r2)) (hp : p = pc) (hb : am_cmp cnd x y = false) (k : Ex d M scr (pc + 3, ls, st, h, c, n) res) : Ex d M scr (pc, ls, .int y :: .int x :: st, h, c, n) res := by
  subst hp
  refine x_s hE rfl (S := (p + 3, ls, st, h, 0, 0)) ?_ k
  delta am_step am_c2 am_if
  try dsimp only
  rw [hb]
  rfl
theorem x_div {p : Nat} (hE : am_find M.2.2.2.2.2.2 pc = some (p, .idiv, r1, r2)) (hp : p = pc) (hy : ¬ y = 0) (k : Ex d M scr (pc + 1, ls, .int (x / y) :: st, h, c, n) res) : Ex d M scr (pc, ls, .int y :: .int x :: st, h, c, n) res := by
  subst hp
  refine x_s hE rfl (S := (p + 1, ls, .int (x / y) :: st, h, 0, 0)) ?_ k
  delta am_step am_dv
  try dsimp only
  rw [if_neg hy]
theorem x_rem {p : Nat} (hE : am_find M.2.2.2.2.2.2 pc = some (p, .irem, r1, r2)) (hp : p = pc) (hy : ¬ y = 0) (k : Ex d M scr (pc + 1, ls, .int (x - x / y * y) :: st, h, c, n) res) : Ex d M scr (pc, ls, .int y :: .int x :: st, h, c, n) res := by
  subst hp
  refine x_s hE rfl (S := (p + 1, ls, .int (x - x / y * y) :: st, h, 0, 0)) ?_ k
  delta am_step am_dv
  try dsimp only
  rw [if_neg hy]
theorem x_new {p q : Nat} (hE : am_find M.2.2.2.2.2.2 pc = some (p, .new q, r1, r2)) (hp : p = pc) (hl : h.length < am_SB) (hH : h ++ [.inr (r1, am_fd r1)] = H) (hr : r1 < 1000) (k : Ex d M scr (pc + 3, ls, .ref h.length :: st, H, c + 1, n + (am_fd r1).length) res) : Ex d M scr (pc, ls, st, h, c, n) res := by
  subst hp hH
  have hk : am_kind (Instr.new q) r1 = 0 := by
    simp only [am_kind]; rw [if_neg (by omega)]
  refine x_s hE hk (S := (p + 3, ls, .ref h.length :: st, h ++ [.inr (r1, am_fd r1)], 1, (am_fd r1).length)) ?_ k
  delta am_step am_new
  try dsimp only
  rw [if_pos hl]
theorem x_copy {p q m m2 i2 j2 : Nat} {z : Int32} {f g : Nat → Int32} (hE : am_find M.2.2.2.2.2.2 pc = some (p, .invokestatic q, 900, r2)) (hp : p = pc) (ha : a < am_SB) (hb : b < am_SB) (hab : ¬ a = b) (hst : (st.map Value.category).sum ≤ 8) (hcb : h[b]? = some (.inl (0, m, .inl f))) (hca : h[a]? = some (.inl (0, m2, .inl g)))
    (hx : 0 ≤ x.toInt ∧ 0 ≤ y.toInt ∧ 0 ≤ z.toInt ∧ x.toNatClampNeg + z.toNatClampNeg ≤ m ∧ y.toNatClampNeg + z.toNatClampNeg ≤ m2)
    (hH : h.set a (.inl (0, m2, .inl (va_cpy f g x.toNatClampNeg y.toNatClampNeg z.toNatClampNeg))) = H) (k : Ex d M scr (pc + 3, ls, st, H, c, n) res) : Ex d M scr (pc, ls, .int z :: .int y :: .ref a :: .int x :: .ref b :: st, h, c, n) res := by
  subst hp hH
  refine x_s hE rfl (S := (p + 3, ls, st, h.set a (.inl (0, m2, .inl (va_cpy f g x.toNatClampNeg y.toNatClampNeg z.toNatClampNeg))), 0, 0)) ?_ k
  delta am_step am_copy
  try dsimp only
  rw [if_neg (by decide), if_neg (by decide), if_pos ⟨ha, hb, hab, hst⟩, hcb, hca]
  exact if_pos hx
/-- a loop: more or an end -/
def lw {S X : Type} (f : S → Option (S ⊕ X)) : Nat → S → Option X
  | 0, _ => none
  | k + 1, s => match f s with
    | none => none
    | some (.inl t) => lw f k t
    | some (.inr x) => some x
theorem x_lw {S X : Type} {f : S → Option (S ⊕ X)} {P : S → ASt} {Q : X → Prop} (hb : ∀ s o, f s = some o → (∀ t, o = .inl t → Ex d M scr (P t) res) → (∀ x, o = .inr x → Q x) → Ex d M scr (P s) res) : ∀ (k : Nat) (s : S) (x : X), lw f k s = some x → Q x → Ex d M scr (P s) res
  | 0, _, _, hr, _ => by cases hr
  | k + 1, s, x, hr, hq => by
    unfold lw at hr
    split at hr
    · cases hr
    · next t ht => exact hb s _ ht (fun u hu => by cases hu; exact x_lw hb k t x hr hq) (fun _ hu => by cases hu)
    · next y hy =>
      cases hr
      exact hb s _ hy (fun _ hu => by cases hu) (fun _ hu => by cases hu; exact hq)
theorem ite_some {α : Type} {P : Prop} [Decidable P] {u v : Option α} {o : α} (hr : (if P then u else v) = some o) : (P ∧ u = some o) ∨ (¬ P ∧ v = some o) := by
  by_cases hP : P
  · rw [if_pos hP] at hr; exact .inl ⟨hP, hr⟩
  · rw [if_neg hP] at hr; exact .inr ⟨hP, hr⟩
theorem hp_at {N : Nat} {L : List AC} {e : AC} (hh : b + N ≤ h.length) (hl : L.length = N) (hc : L[i]? = some e) : (hput h b L)[b + i]? = some e := by
  subst hl
  have hi : i < L.length := by
    rcases Nat.lt_or_ge i L.length with h1 | h1
    · exact h1
    · rw [List.getElem?_eq_none h1] at hc; cases hc
  rw [hput_get hh, if_pos (by omega), show b + i - b = i by omega, hc]
theorem hp_set {N : Nat} {L L2 : List AC} {e : AC} (hh : b + N ≤ h.length) (hl : L.length = N) (hi : i < N) (hL : L.set i e = L2) : (hput h b L).set (b + i) e = hput h b L2 := by
  subst hl
  exact hput_set hh hi hL
theorem h_lt {N : Nat} (hb : b + N ≤ am_SB) (hi : i < N) : b + i < am_SB := by omega
end RW
/-! ===== A SLOT FORGOTTEN: the run goes on as well ===== -/
theorem Lq.nil : Lq [] [] := Lq.refl []
theorem Lq.s {ls ls2 : ALs} {v : Option Value} (q : Lq ls ls2) : Lq (v :: ls) (v :: ls2) := by
  refine ⟨by rw [List.length_cons, List.length_cons, q.1], fun i w h => ?_⟩
  cases i with
  | zero => exact h
  | succ i => exact q.2 i w h
theorem Lq.n {ls ls2 : ALs} {v : Option Value} (q : Lq ls ls2) : Lq (none :: ls) (v :: ls2) := by
  refine ⟨by rw [List.length_cons, List.length_cons, q.1], fun i w h => ?_⟩
  cases i with
  | zero => cases h
  | succ i => exact q.2 i w h
