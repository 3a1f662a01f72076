/-! ===== A LIST READ: tokens ===== -/
/-- from p on the list is r -/
def Lx (l : List Nat) (p : Nat) (r : List Nat) : Prop := l.drop p = r ∧ p ≤ l.length
/-- r doesn't begin with such a byte -/
def nh (lo hi : Nat) (r : List Nat) : Prop := ∀ x r', r = x :: r' → ¬ (lo ≤ x ∧ x ≤ hi)
section LX
variable {l r a : List Nat} {p : Nat}
theorem Lx.len (h : Lx l p r) : p + r.length = l.length := by
  obtain ⟨h1, h2⟩ := h
  rw [← h1, List.length_drop]
  omega
theorem Lx.app (h : Lx l p (a ++ r)) : Lx l (p + a.length) r := by
  have hl := h.len
  rw [List.length_append] at hl
  refine ⟨?_, by omega⟩
  rw [← List.drop_drop, h.1, List.drop_left]
theorem Lx.get (h : Lx l p (a ++ r)) {i : Nat} (hi : i < a.length) : bf l (p + i) = a.getD i 0 := by
  unfold bf
  rw [List.getD_eq_getElem?_getD, List.getD_eq_getElem?_getD, ← List.getElem?_drop, h.1, List.getElem?_append_left hi]
theorem run_pre {lo hi : Nat} : ∀ (a : List Nat) (q : Nat), Lx l q (a ++ r) → (∀ x, x ∈ a → lo ≤ x ∧ x ≤ hi) → nh lo hi r → run (bf l) lo hi (l.length - q) q = q + a.length
  | [], q, h, _, hn => by
    have hl := h.len
    rw [List.nil_append] at hl h
    cases r with
    | nil =>
      have : l.length - q = 0 := by have : ([] : List Nat).length = 0 := rfl; omega
      rw [this]
      rfl
    | cons x r' =>
      obtain ⟨m, hm⟩ : ∃ m, l.length - q = m + 1 := ⟨l.length - q - 1, by rw [List.length_cons] at hl; omega⟩
      have hg : bf l q = x := Lx.get (a := [x]) (r := r') (i := 0) h (by show 0 < 1; decide)
      rw [hm, run, hg, if_neg (hn x r' rfl)]
      rfl
  | x :: a, q, h, ha, hn => by
    have hl := h.len
    rw [List.length_append, List.length_cons] at hl
    obtain ⟨m, hm⟩ : ∃ m, l.length - q = m + 1 := ⟨l.length - q - 1, by omega⟩
    have hg : bf l q = x := Lx.get (a := x :: a) (r := r) (i := 0) h (by rw [List.length_cons]; omega)
    have h' : Lx l (q + 1) (a ++ r) := Lx.app (a := [x]) (r := a ++ r) h
    have ih := run_pre (lo := lo) (hi := hi) a (q + 1) h' (fun y hy => ha y (List.mem_cons_of_mem _ hy)) hn
    rw [hm, run, hg, if_pos (ha x (List.mem_cons_self ..)), show m = l.length - (q + 1) by omega, ih, List.length_cons]
    omega
/-- blanks -/
def bl32 (sp : List Nat) : Prop := ∀ x, x ∈ sp → 32 ≤ x ∧ x ≤ 32
theorem bl_0 : bl32 [] := fun x hx => by simp at hx
theorem bl_1 : bl32 [32] := fun x hx => by
  rw [List.mem_singleton] at hx
  subst hx
  exact ⟨Nat.le_refl _, Nat.le_refl _⟩
theorem tok_s {sp : List Nat} (h : Lx l p (sp ++ r)) (hs : bl32 sp) (hn : nh 32 32 r) : tS (bf l) l.length p = p + sp.length := run_pre sp p h hs hn
theorem nh_cons {lo hi x : Nat} {r' : List Nat} (h : ¬ (lo ≤ x ∧ x ≤ hi)) : nh lo hi (x :: r') := fun y s e => by
  injection e with e1 e2
  rw [← e1]
  exact h
theorem nh_nil {lo hi : Nat} : nh lo hi [] := fun y s e => by cases e
/-- the end -/
theorem tok_e (h : Lx l p []) : tK (bf l) l.length p = 0 := by
  have hl := h.len
  have e := tok_s (sp := []) (r := []) h bl_0 nh_nil
  unfold tK
  have : ([] : List Nat).length = 0 := rfl
  rw [e, if_neg (by omega)]
/-- a semicolon -/
theorem tok_c {sp : List Nat} (h : Lx l p (sp ++ (59 :: r))) (hs : bl32 sp) : tK (bf l) l.length p = 3 ∧ bf l (tS (bf l) l.length p) = 59 ∧ tE (bf l) l.length p = p + sp.length + 1 ∧ Lx l (p + sp.length + 1) r := by
  have e := tok_s h hs (nh_cons (by omega))
  have h2 := h.app
  have hl := h2.len
  rw [List.length_cons] at hl
  have ea : tA (bf l) l.length p = p + sp.length := by
    unfold tA
    rw [e]
    exact run_pre (l := l) (r := 59 :: r) [] _ h2 (fun x hx => by simp at hx) (nh_cons (by omega))
  have ed : tD (bf l) l.length p = p + sp.length := by
    unfold tD
    rw [e]
    exact run_pre (l := l) (r := 59 :: r) [] _ h2 (fun x hx => by simp at hx) (nh_cons (by omega))
  have ek : tK (bf l) l.length p = 3 := by
    unfold tK
    rw [e, ea, ed, if_pos (by omega), if_neg (by omega), if_neg (by omega)]
  refine ⟨ek, ?_, ?_, Lx.app (a := [59]) h2⟩
  · rw [e]
    exact Lx.get (a := [59]) (r := r) (i := 0) h2 (by show 0 < 1; decide)
  · unfold tE
    rw [if_pos ek, e]
/-- digits -/
theorem dgt_mem {k : Nat} (hk : k < 100) : ∀ x, x ∈ dgt k → 48 ≤ x ∧ x ≤ 57 := fun x hx => by
  unfold dgt at hx
  split at hx
  · rw [List.mem_singleton] at hx
    omega
  · rw [List.mem_cons, List.mem_singleton] at hx
    omega
theorem dgt_cons {k : Nat} (hk : k < 100) : ∃ x y, dgt k = x :: y ∧ 48 ≤ x ∧ x ≤ 57 := by
  unfold dgt
  split
  · exact ⟨_, _, rfl, by omega, by omega⟩
  · exact ⟨_, _, rfl, by omega, by omega⟩
theorem tok_n {sp : List Nat} {k : Nat} (h : Lx l p (sp ++ (dgt k ++ r))) (hs : bl32 sp) (hk : k < 100) (hr : nh 48 57 r) : tK (bf l) l.length p = 2 ∧ tE (bf l) l.length p = p + sp.length + (dgt k).length ∧ Lx l (p + sp.length + (dgt k).length) r ∧ tN (bf l) l.length p = k ∧ ∀ lo hi, ism lo hi (bf l) l.length p = decide (lo ≤ k ∧ k ≤ hi) := by
  obtain ⟨x, y, exy, x1, x2⟩ := dgt_cons hk
  have e := tok_s h hs (by rw [exy]; exact nh_cons (by omega))
  have h2 := h.app
  have hl := h2.len
  have hl0 : 0 < (dgt k).length := by rw [exy, List.length_cons]; omega
  have hl2 := (dgt_len (k := k)).1
  rw [List.length_append] at hl
  have ea : tA (bf l) l.length p = p + sp.length := by
    unfold tA
    rw [e]
    exact run_pre (l := l) (r := dgt k ++ r) [] _ h2 (fun x hx => by simp at hx) (by rw [exy]; exact nh_cons (by omega))
  have ed : tD (bf l) l.length p = p + sp.length + (dgt k).length := by
    unfold tD
    rw [e]
    exact run_pre (dgt k) _ h2 (dgt_mem hk) hr
  have ek : tK (bf l) l.length p = 2 := by
    unfold tK
    rw [e, ea, ed, if_pos (by omega), if_neg (by omega), if_pos (by omega)]
  have et : tE (bf l) l.length p = p + sp.length + (dgt k).length := by
    unfold tE
    rw [if_neg (by omega), ea, ed]
    omega
  have en : tN (bf l) l.length p = k := by
    unfold tN
    rw [et, e, Nat.add_sub_cancel_left]
    by_cases q : k < 10
    · have e1 : dgt k = [48 + k] := if_pos q
      have g0 : bf l (p + sp.length) = 48 + k := by
        have := Lx.get h2 (i := 0) hl0
        rw [e1] at this
        exact this
      rw [e1]
      show 10 * 0 + bf l (p + sp.length) - 48 = k
      rw [g0]
      omega
    · have e1 : dgt k = [48 + k / 10, 48 + k % 10] := if_neg q
      have g0 : bf l (p + sp.length) = 48 + k / 10 := by
        have := Lx.get h2 (i := 0) hl0
        rw [e1] at this
        exact this
      have g1 : bf l (p + sp.length + 1) = 48 + k % 10 := by
        have := Lx.get h2 (i := 1) (by rw [e1]; show 1 < 2; decide)
        rw [e1] at this
        exact this
      rw [e1]
      show 10 * (10 * 0 + bf l (p + sp.length) - 48) + bf l (p + sp.length + 1) - 48 = k
      rw [g0, g1]
      omega
  refine ⟨ek, et, h2.app, en, fun lo hi => ?_⟩
  unfold ism
  rw [en]
  by_cases q : lo ≤ k ∧ k ≤ hi
  · rw [decide_eq_true q, decide_eq_true ⟨ek, by rw [et, e]; omega, q.1, q.2⟩]
  · rw [decide_eq_false q, decide_eq_false (fun z => q ⟨z.2.2.1, z.2.2.2⟩)]
/-- a word -/
theorem tok_w {sp wl : List Nat} (h : Lx l p (sp ++ (wl ++ r))) (hs : bl32 sp) (hw : ∀ x, x ∈ wl → 97 ≤ x ∧ x ≤ 122) (h0 : 0 < wl.length) (hr : nh 97 122 r) : tE (bf l) l.length p = p + sp.length + wl.length ∧ Lx l (p + sp.length + wl.length) r ∧ ∀ k, wd k (bf l) l.length p = (decide (wl.length = (am_tx k).length) && al (fun i => decide (nI (wl.getD i 0) = (am_tx k).getD i 0)) (am_tx k).length) := by
  obtain ⟨x, y, exy⟩ : ∃ x y, wl = x :: y := by
    cases wl with
    | nil => exact absurd h0 (Nat.lt_irrefl 0)
    | cons x y => exact ⟨x, y, rfl⟩
  have hx := hw x (by rw [exy]; exact List.mem_cons_self ..)
  have e := tok_s h hs (by rw [exy]; exact nh_cons (by omega))
  have h2 := h.app
  have hl := h2.len
  rw [List.length_append] at hl
  have ea : tA (bf l) l.length p = p + sp.length + wl.length := by
    unfold tA
    rw [e]
    exact run_pre wl _ h2 hw hr
  have ed : tD (bf l) l.length p = p + sp.length := by
    unfold tD
    rw [e]
    exact run_pre (l := l) (r := wl ++ r) [] _ h2 (fun x hx => by simp at hx) (by rw [exy]; exact nh_cons (by omega))
  have ek : tK (bf l) l.length p = 1 := by
    unfold tK
    rw [e, ea, if_pos (by omega), if_pos (by omega)]
  have et : tE (bf l) l.length p = p + sp.length + wl.length := by
    unfold tE
    rw [if_neg (by omega), ea, ed]
    omega
  refine ⟨et, h2.app, fun k => ?_⟩
  unfold wd
  rw [decide_eq_true ek, Bool.true_and, et, e, Nat.add_sub_cancel_left]
  by_cases q : wl.length = (am_tx k).length
  · rw [decide_eq_true q, Bool.true_and, Bool.true_and]
    exact al_cong fun i hi => by rw [Lx.get h2 (by omega)]
  · rw [decide_eq_false q, Bool.false_and, Bool.false_and]
end LX
/-- what may stand behind a number that ends a statement -/
def nx (r : List Nat) : Prop := r = [] ∨ (∃ r', r = 59 :: r') ∨ ∃ r', r = 32 :: 59 :: r'
theorem nx_app {r s : List Nat} (h : nx r) (k : nx s) : nx (r ++ s) := by
  rcases h with rfl | ⟨r', rfl⟩ | ⟨r', rfl⟩
  · exact k
  · exact .inr (.inl ⟨_, rfl⟩)
  · exact .inr (.inr ⟨_, rfl⟩)
theorem nx_nh {r : List Nat} (h : nx r) : nh 48 57 r ∧ nh 97 122 r := by
  rcases h with rfl | ⟨r', rfl⟩ | ⟨r', rfl⟩
  · exact ⟨nh_nil, nh_nil⟩
  · exact ⟨nh_cons (by omega), nh_cons (by omega)⟩
  · exact ⟨nh_cons (by omega), nh_cons (by omega)⟩
theorem nx_k {l r : List Nat} {p : Nat} (h : nx r) (hx : Lx l p r) : ¬ tK (bf l) l.length p = 2 := by
  rcases h with rfl | ⟨r', rfl⟩ | ⟨r', rfl⟩
  · rw [tok_e hx]; decide
  · rw [(tok_c (sp := []) hx bl_0).1]; decide
  · rw [(tok_c (sp := [32]) hx bl_1).1]; decide
theorem nh_32 {r : List Nat} : nh 48 57 (32 :: r) ∧ nh 97 122 (32 :: r) := ⟨nh_cons (by omega), nh_cons (by omega)⟩
