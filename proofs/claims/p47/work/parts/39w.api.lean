/-! ===== LOOKING UP IN THE WORLD after a change ===== -/
theorem at_top (W : Wd) : W.at W.top = none := by
  unfold Wd.at
  split
  · exact dlk_none (by unfold Wd.top; omega)
  · rfl
theorem at_lt {W : Wd} {a : Nat} {x : Dy} (h : W.at a = some x) : 29 ≤ a ∧ a < 900000 ∧ a + dsz x ≤ W.top := by
  unfold Wd.at at h
  split at h
  · next h1 =>
    have := dlk_lt h
    refine ⟨h1.1, h1.2, ?_⟩
    unfold Wd.top
    omega
  · cases h
theorem wat_set {W : Wd} {a : Nat} {x y : Dy} (h : W.at a = some x) (hs : dsz y = dsz x) (b : Nat) : (W.w_dyn (dset W.dyn (a - 29) y)).at b = if b = a then some y else W.at b := by
  have h0 := at_lt h
  unfold Wd.at at h ⊢
  rw [if_pos ⟨h0.1, h0.2.1⟩] at h
  show (if 29 ≤ b ∧ b < 900000 then dlk (dset W.dyn (a - 29) y) (b - 29) else none) = _
  by_cases hb : 29 ≤ b ∧ b < 900000
  · rw [if_pos hb, if_pos hb, dlk_set h hs]
    by_cases hab : b = a
    · rw [if_pos hab, if_pos (by omega)]
    · rw [if_neg hab, if_neg (by omega)]
  · rw [if_neg hb, if_neg hb, if_neg (by omega)]
theorem at_push (W : Wd) (y : Dy) (ht : W.top < 900000) (b : Nat) : (W.w_dyn (W.dyn ++ [y])).at b = if b = W.top then some y else W.at b := by
  unfold Wd.at
  show (if 29 ≤ b ∧ b < 900000 then dlk (W.dyn ++ [y]) (b - 29) else none) = _
  have e : W.top = 29 + dtot W.dyn := rfl
  by_cases hb : 29 ≤ b ∧ b < 900000
  · rw [if_pos hb, if_pos hb, dlk_push]
    by_cases hab : b = W.top
    · rw [if_pos hab, if_pos (by omega)]
    · rw [if_neg hab, if_neg (by omega)]
  · rw [if_neg hb, if_neg hb, if_neg (by omega)]
theorem at_cong {W X : Wd} (h : X.dyn = W.dyn) (a : Nat) : X.at a = W.at a := by
  unfold Wd.at; rw [h]
theorem bd_dyn {W X : Wd} (h : X.dyn = W.dyn) (b : Nat) : X.bd b = W.bd b := by
  unfold Wd.bd; rw [at_cong h]
theorem fp_dyn {W X : Wd} (h : X.dyn = W.dyn) (b : Nat) : X.fp b = W.fp b := by
  unfold Wd.fp; rw [at_cong h]
theorem cl_dyn {W X : Wd} (h : X.dyn = W.dyn) : X.cl = W.cl := by
  funext b
  unfold Wd.cl; rw [at_cong h]
theorem top_dyn {W X : Wd} (h : X.dyn = W.dyn) : X.top = W.top := by
  unfold Wd.top; rw [h]
theorem bd_at {W : Wd} {a : Nat} {B : Bd} (h : W.at a = some (.inl B)) : W.bd a = some B := by unfold Wd.bd; rw [h]
theorem fp_at {W : Wd} {a : Nat} {B : FP} (h : W.at a = some (.inr (.inl B))) : W.fp a = some B := by unfold Wd.fp; rw [h]
theorem cl_at {W : Wd} {a : Nat} {B : AC} (h : W.at a = some (.inr (.inr B))) : W.cl a = some B := by unfold Wd.cl; rw [h]
section SET
variable {W : Wd} {a b : Nat}
theorem dset_dset : ∀ (l : List Dy) (a : Nat) (x y : Dy), dsz y = dsz x → dset (dset l a x) a y = dset l a y
  | [], _, _, _, _ => rfl
  | z :: l, a, x, y, hs => by
    by_cases h1 : a = 0
    · have e : ∀ (u : Dy) (k : List Dy) (w : Dy), dset (u :: k) a w = w :: k := fun u k w => by
        rw [dset, if_pos h1]
      rw [e, e, e]
    · by_cases h2 : a < dsz z
      · have e : ∀ w : Dy, dset (z :: l) a w = z :: l := fun w => by
          rw [dset, if_neg h1, if_pos h2]
        simp only [e]
      · have e : ∀ (k : List Dy) (w : Dy), dset (z :: k) a w = z :: dset k (a - dsz z) w := fun k w => by
          rw [dset, if_neg h1, if_neg h2]
        rw [e, e, e, dset_dset l _ x y hs]
theorem dset_self : ∀ {l : List Dy} {a : Nat} {x : Dy}, dlk l a = some x → dset l a x = l := fun {l a x} h => by
  obtain ⟨p, q, rfl, -, e3⟩ := dlk_split l a x h
  exact e3 x
theorem sbd_bd {P B : Bd} (h : W.bd a = some P) (b : Nat) : (W.sbd a B).bd b = if b = a then some B else W.bd b := by
  have h1 : (W.sbd a B).at b = if b = a then some (.inl B) else W.at b := wat_set (y := .inl B) (at_bd h) rfl b
  unfold Wd.bd
  rw [h1]
  by_cases hb : b = a
  · rw [if_pos hb, if_pos hb]
  · rw [if_neg hb, if_neg hb]
theorem sbd_fpe {P B : Bd} (h : W.bd a = some P) (b : Nat) : (W.sbd a B).fp b = W.fp b := by
  have h1 : (W.sbd a B).at b = if b = a then some (.inl B) else W.at b := wat_set (y := .inl B) (at_bd h) rfl b
  unfold Wd.fp
  rw [h1]
  by_cases hb : b = a
  · subst hb; rw [if_pos rfl, at_bd h]
  · rw [if_neg hb]
theorem sbd_cl {P B : Bd} (h : W.bd a = some P) : (W.sbd a B).cl = W.cl := by
  funext b
  have h1 : (W.sbd a B).at b = if b = a then some (.inl B) else W.at b := wat_set (y := .inl B) (at_bd h) rfl b
  unfold Wd.cl
  rw [h1]
  by_cases hb : b = a
  · subst hb; rw [if_pos rfl, at_bd h]
  · rw [if_neg hb]
theorem sbd_top {P B : Bd} (h : W.bd a = some P) : (W.sbd a B).top = W.top := by
  have h1 := at_bd h
  unfold Wd.at at h1
  split at h1
  · exact congrArg (29 + ·) (dtot_set (y := .inl B) h1 rfl)
  · cases h1
theorem sfp_fp {P B : FP} (h : W.fp a = some P) (b : Nat) : (W.sfp a B).fp b = if b = a then some B else W.fp b := by
  have h1 : (W.sfp a B).at b = if b = a then some (.inr (.inl B)) else W.at b := wat_set (y := .inr (.inl B)) (at_fp h) rfl b
  unfold Wd.fp
  rw [h1]
  by_cases hb : b = a
  · rw [if_pos hb, if_pos hb]
  · rw [if_neg hb, if_neg hb]
theorem sfp_bd {P B : FP} (h : W.fp a = some P) (b : Nat) : (W.sfp a B).bd b = W.bd b := by
  have h1 : (W.sfp a B).at b = if b = a then some (.inr (.inl B)) else W.at b := wat_set (y := .inr (.inl B)) (at_fp h) rfl b
  unfold Wd.bd
  rw [h1]
  by_cases hb : b = a
  · subst hb; rw [if_pos rfl, at_fp h]
  · rw [if_neg hb]
theorem sfp_cl {P B : FP} (h : W.fp a = some P) : (W.sfp a B).cl = W.cl := by
  funext b
  have h1 : (W.sfp a B).at b = if b = a then some (.inr (.inl B)) else W.at b := wat_set (y := .inr (.inl B)) (at_fp h) rfl b
  unfold Wd.cl
  rw [h1]
  by_cases hb : b = a
  · subst hb; rw [if_pos rfl, at_fp h]
  · rw [if_neg hb]
theorem sfp_top {P B : FP} (h : W.fp a = some P) : (W.sfp a B).top = W.top := by
  have h1 := at_fp h
  unfold Wd.at at h1
  split at h1
  · exact congrArg (29 + ·) (dtot_set (y := .inr (.inl B)) h1 rfl)
  · cases h1
theorem scl_cl {c c2 : AC} (h : W.cl a = some c) (b : Nat) : (W.scl a c2).cl b = if b = a then some c2 else W.cl b := by
  have h1 : (W.scl a c2).at b = if b = a then some (.inr (.inr c2)) else W.at b := wat_set (y := .inr (.inr c2)) (at_cl h) rfl b
  unfold Wd.cl
  rw [h1]
  by_cases hb : b = a
  · rw [if_pos hb, if_pos hb]
  · rw [if_neg hb, if_neg hb]
theorem scl_bd {c c2 : AC} (h : W.cl a = some c) (b : Nat) : (W.scl a c2).bd b = W.bd b := by
  have h1 : (W.scl a c2).at b = if b = a then some (.inr (.inr c2)) else W.at b := wat_set (y := .inr (.inr c2)) (at_cl h) rfl b
  unfold Wd.bd
  rw [h1]
  by_cases hb : b = a
  · subst hb; rw [if_pos rfl, at_cl h]
  · rw [if_neg hb]
theorem scl_fp {c c2 : AC} (h : W.cl a = some c) (b : Nat) : (W.scl a c2).fp b = W.fp b := by
  have h1 : (W.scl a c2).at b = if b = a then some (.inr (.inr c2)) else W.at b := wat_set (y := .inr (.inr c2)) (at_cl h) rfl b
  unfold Wd.fp
  rw [h1]
  by_cases hb : b = a
  · subst hb; rw [if_pos rfl, at_cl h]
  · rw [if_neg hb]
theorem pushB_at (ht : W.top < 900000) (b : Nat) : W.pushB.at b = if b = W.top then some (.inl Bd.zero) else W.at b := at_push W (.inl Bd.zero) ht b
theorem pushF_at {t : Int32} (ht : W.top < 900000) (b : Nat) : (W.pushF t).at b = if b = W.top then some (.inr (.inl (FP.zero t))) else W.at b := at_push W (.inr (.inl (FP.zero t))) ht b
theorem pushB_bde (ht : W.top < 900000) (b : Nat) : W.pushB.bd b = if b = W.top then some Bd.zero else W.bd b := by
  unfold Wd.bd
  rw [pushB_at ht]
  by_cases hb : b = W.top
  · rw [if_pos hb, if_pos hb]
  · rw [if_neg hb, if_neg hb]
theorem pushB_fpe (ht : W.top < 900000) (b : Nat) : W.pushB.fp b = W.fp b := by
  unfold Wd.fp
  rw [pushB_at ht]
  by_cases hb : b = W.top
  · rw [if_pos hb, hb, at_top]
  · rw [if_neg hb]
theorem pushB_cl (ht : W.top < 900000) : W.pushB.cl = W.cl := by
  funext b
  unfold Wd.cl
  rw [pushB_at ht]
  by_cases hb : b = W.top
  · rw [if_pos hb, hb, at_top]
  · rw [if_neg hb]
theorem pushF_fpe {t : Int32} (ht : W.top < 900000) (b : Nat) : (W.pushF t).fp b = if b = W.top then some (FP.zero t) else W.fp b := by
  unfold Wd.fp
  rw [pushF_at ht]
  by_cases hb : b = W.top
  · rw [if_pos hb, if_pos hb]
  · rw [if_neg hb, if_neg hb]
theorem pushF_bde {t : Int32} (ht : W.top < 900000) (b : Nat) : (W.pushF t).bd b = W.bd b := by
  unfold Wd.bd
  rw [pushF_at ht]
  by_cases hb : b = W.top
  · rw [if_pos hb, hb, at_top]
  · rw [if_neg hb]
theorem pushF_cl {t : Int32} (ht : W.top < 900000) : (W.pushF t).cl = W.cl := by
  funext b
  unfold Wd.cl
  rw [pushF_at ht]
  by_cases hb : b = W.top
  · rw [if_pos hb, hb, at_top]
  · rw [if_neg hb]
theorem pushB_tope : W.pushB.top = W.top + 6 := by
  show 29 + dtot (W.dyn ++ [.inl Bd.zero]) = 29 + dtot W.dyn + 6
  rw [dtot_app]
  show 29 + (dtot W.dyn + (6 + 0)) = _
  omega
theorem pushF_tope {t : Int32} : (W.pushF t).top = W.top + 6 := by
  show 29 + dtot (W.dyn ++ [.inr (.inl (FP.zero t))]) = 29 + dtot W.dyn + 6
  rw [dtot_app]
  show 29 + (dtot W.dyn + (6 + 0)) = _
  omega
end SET
/-- single cells at the end, looked up -/
theorem dlk_dsn : ∀ (L : List AC) (k : Nat), dlk (dsn L) k = (L[k]?).map fun c => .inr (.inr c)
  | [], _ => rfl
  | c :: L, 0 => rfl
  | c :: L, k + 1 => by
    show (if k + 1 = 0 then some (.inr (.inr c)) else if k + 1 < 1 then none else dlk (dsn L) (k + 1 - 1)) = _
    rw [if_neg (by omega), if_neg (by omega), Nat.add_sub_cancel, dlk_dsn L k]
    rfl
theorem at_app (W : Wd) (L : List AC) (n : Nat) (ht : W.top + L.length ≤ 900000) (b : Nat) : (W.app L n).at b = if W.top ≤ b then (L[b - W.top]?).map (fun c => .inr (.inr c)) else W.at b := by
  unfold Wd.at
  show (if 29 ≤ b ∧ b < 900000 then dlk (W.dyn ++ dsn L) (b - 29) else none) = _
  have e : W.top = 29 + dtot W.dyn := rfl
  by_cases hb : W.top ≤ b
  · rw [if_pos hb]
    by_cases h9 : b < 900000
    · rw [if_pos ⟨by omega, h9⟩]
      obtain ⟨k, hk⟩ : ∃ k, b - 29 = dtot W.dyn + k := ⟨b - W.top, by omega⟩
      rw [hk, dlk_appr, dlk_dsn, show b - W.top = k by omega]
    · rw [if_neg (by omega), List.getElem?_eq_none (by omega)]
      rfl
  · rw [if_neg hb]
    by_cases h9 : 29 ≤ b ∧ b < 900000
    · rw [if_pos h9, if_pos h9, dlk_app _ (by omega)]
    · rw [if_neg h9, if_neg h9]
theorem cl_app {W : Wd} {L : List AC} {n : Nat} (ht : W.top + L.length ≤ 900000) (b : Nat) : (W.app L n).cl b = if W.top ≤ b then L[b - W.top]? else W.cl b := by
  unfold Wd.cl
  rw [at_app W L n ht]
  by_cases hb : W.top ≤ b
  · rw [if_pos hb, if_pos hb]
    cases L[b - W.top]? <;> rfl
  · rw [if_neg hb, if_neg hb]
theorem at_ge {W : Wd} {b : Nat} (hb : W.top ≤ b) : W.at b = none := by
  cases h : W.at b with
  | none => rfl
  | some x =>
    have := at_lt h
    have := dsz_pos x
    omega
theorem bd_app {W : Wd} {L : List AC} {n : Nat} (ht : W.top + L.length ≤ 900000) (b : Nat) : (W.app L n).bd b = W.bd b := by
  unfold Wd.bd
  rw [at_app W L n ht]
  by_cases hb : W.top ≤ b
  · rw [if_pos hb, at_ge hb]
    cases L[b - W.top]? <;> rfl
  · rw [if_neg hb]
theorem fp_app {W : Wd} {L : List AC} {n : Nat} (ht : W.top + L.length ≤ 900000) (b : Nat) : (W.app L n).fp b = W.fp b := by
  unfold Wd.fp
  rw [at_app W L n ht]
  by_cases hb : W.top ≤ b
  · rw [if_pos hb, at_ge hb]
    cases L[b - W.top]? <;> rfl
  · rw [if_neg hb]
theorem cl_lt {W : Wd} {a : Nat} {c : AC} (h : W.cl a = some c) : a < W.top := by
  have h1 : a + 1 ≤ W.top := (at_lt (at_cl h)).2.2
  omega
/-- what it may cost: cells, slots; the top grows no more than the cells -/
def Co (c k : Nat) (W W' : Wd) : Prop := W'.kc ≤ W.kc + c ∧ W'.kn ≤ W.kn + k ∧ W'.top + W.kc ≤ W.top + W'.kc
theorem Co.rf (W : Wd) : Co 0 0 W W := ⟨Nat.le_refl _, Nat.le_refl _, Nat.le_refl _⟩
theorem Co.tr {a b c d : Nat} {X Y Z : Wd} (h : Co a b X Y) (k : Co c d Y Z) : Co (a + c) (b + d) X Z := by
  obtain ⟨h1, h2, h3⟩ := h
  obtain ⟨k1, k2, k3⟩ := k
  exact ⟨by omega, by omega, by omega⟩
theorem Co.up {a b c d : Nat} {X Y : Wd} (h : Co a b X Y) (h1 : a ≤ c) (h2 : b ≤ d) : Co c d X Y := ⟨Nat.le_trans h.1 (by omega), Nat.le_trans h.2.1 (by omega), h.2.2⟩
theorem Co.dy {X Y : Wd} (h1 : Y.kc = X.kc) (h2 : Y.kn = X.kn) (h3 : Y.dyn = X.dyn) : Co 0 0 X Y := ⟨by omega, by omega, by rw [top_dyn h3, h1]; exact Nat.le_refl _⟩
theorem Co.app {W : Wd} (L : List AC) (n : Nat) : Co L.length n W (W.app L n) := ⟨Nat.le_refl _, Nat.le_refl _, by rw [top_app]; show W.top + L.length + W.kc ≤ W.top + (W.kc + L.length); omega⟩
theorem Co.scl {W : Wd} {a : Nat} {c : AC} (h : W.cl a = some c) (c2 : AC) : Co 0 0 W (W.scl a c2) := ⟨Nat.le_refl _, Nat.le_refl _, by rw [top_scl h]; exact Nat.le_refl _⟩
theorem Co.thr (W : Wd) : Co 1 6 W W.thr := ⟨Nat.le_refl _, Nat.le_refl _, by show W.top + W.kc ≤ W.top + (W.kc + 1); omega⟩
theorem Co.pushB (W : Wd) : Co 6 129 W W.pushB := ⟨Nat.le_refl _, Nat.le_refl _, by rw [pushB_tope]; show W.top + 6 + W.kc ≤ W.top + (W.kc + 1 + 5); omega⟩
theorem Co.pushF (W : Wd) (t : Int32) : Co 6 1154 W (W.pushF t) := ⟨Nat.le_refl _, Nat.le_refl _, by rw [pushF_tope]; show W.top + 6 + W.kc ≤ W.top + (W.kc + 1 + 5); omega⟩
