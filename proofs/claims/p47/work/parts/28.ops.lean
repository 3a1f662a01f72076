/-! ===== WHAT THE LAW AND THE JDK'S METHODS DO TO THE WORLD: one step each, over single cells ===== -/
def Wd.gv (W : Wd) (a ci i : Nat) : Option Value :=
  if a < am_SB then match W.cl a with
    | some (.inr (c, fs)) => if c = ci then fs[i]? else none
    | _ => none
  else if am_isT a ∧ ci = 8 then (if i = 0 then some (.ref (a + 1)) else if i = 1 then some (.int 0) else none) else none
def vInt : Value → Option Int32
  | .int x => some x
  | _ => none
def vRef : Value → Option Nat
  | .ref x => some x
  | _ => none
def Wd.gI (W : Wd) (a ci i : Nat) : Option Int32 := (W.gv a ci i).bind vInt
def Wd.gR (W : Wd) (a ci i : Nat) : Option Nat := (W.gv a ci i).bind vRef
def Wd.pv (W : Wd) (a ci i : Nat) (v : Value) : Option Wd := match W.cl a with
  | some (.inr (c, fs)) => if c = ci ∧ i < fs.length ∧ fits (am_ft ci i) v = true ∧ narrow (am_ft ci i) v = v ∧ ¬ v = .ref (am_SB + 1) then some (W.scl a (.inr (c, fs.set i v))) else none
  | _ => none
def Wd.aI (W : Wd) (a : Nat) (x : Int32) : Option Int32 := match W.cl a with
  | some (.inl (t, n, .inl f)) => if t = 0 then (ix x n).map f else none
  | _ => none
def Wd.aB (W : Wd) (a : Nat) (x : Int32) : Option Int32 := if a < am_SB then match W.cl a with
    | some (.inl (t, n, .inl f)) => if t = 1 ∨ t = 2 then (ix x n).map f else none
    | _ => none
  else match am_oa a with
    | some (n, f) => (ix x n).map f
    | none => none
def Wd.aR (W : Wd) (a : Nat) (x : Int32) : Option Nat := match W.cl a with
  | some (.inl (t, n, .inr (.inr (.inr (.inr f))))) => if 3 ≤ t ∧ t < 8 then (ix x n).bind f else none
  | _ => none
def Wd.ln (W : Wd) (a : Nat) : Option Int32 := if a < am_SB then match W.cl a with
    | some (.inl (t, n, _)) => if t < 8 then some (Int32.ofNat n) else none
    | _ => none
  else if a = am_SB then none else if a = am_SB + 2 then some 0 else match am_oa a with
    | some (n, _) => some (Int32.ofNat n)
    | none => none
def Wd.sI (W : Wd) (a : Nat) (x y : Int32) : Option Wd := match W.cl a with
  | some (.inl (t, n, .inl f)) => if t = 0 then (ix x n).map fun i => W.scl a (.inl (0, n, .inl (upd f i y))) else none
  | _ => none
def Wd.sB (W : Wd) (a : Nat) (x y : Int32) : Option Wd := match W.cl a with
  | some (.inl (t, n, .inl f)) => if (t = 1 ∧ (y = 0 ∨ y = 1)) ∨ (t = 2 ∧ y.toInt8.toInt32 = y) then (ix x n).map fun i => W.scl a (.inl (t, n, .inl (upd f i y))) else none
  | _ => none
def Wd.sR (W : Wd) (a : Nat) (x : Int32) (v : Nat) : Option Wd := match W.cl a, W.cl v with
  | some (.inl (t, n, .inr (.inr (.inr (.inr f))))), some c => if am_mayb t c = true then (ix x n).map fun i => W.scl a (.inl (t, n, .inr (.inr (.inr (.inr (va_up f i (some v))))))) else none
  | _, _ => none
def Wd.sN (W : Wd) (a : Nat) (x : Int32) : Option Wd := match W.cl a with
  | some (.inl (t, n, .inr (.inr (.inr (.inr f))))) => if t = 5 then (ix x n).map fun i => W.scl a (.inl (5, n, .inr (.inr (.inr (.inr (va_up f i none)))))) else none
  | _ => none
def Wd.nO (W : Wd) (ci : Nat) : Option (Nat × Wd) := if W.top < 890000 ∧ ci < 12 then some (W.top, W.app [.inr (ci, am_fd ci)] (am_fd ci).length) else none
def Wd.nA (W : Wd) (t : Nat) (x : Int32) : Option (Nat × Wd) := if W.top < 890000 ∧ 0 ≤ x.toInt ∧ x.toInt < 1000000 then some (W.top, W.app [.inl (t, x.toNatClampNeg, .inl (fun _ => 0))] x.toNatClampNeg) else none
def Wd.nQ (W : Wd) (t : Nat) (x : Int32) : Option (Nat × Wd) := if W.top < 890000 ∧ 0 ≤ x.toInt ∧ x.toInt < 1000000 then some (W.top, W.app [.inl (t, x.toNatClampNeg, .inr (.inr (.inr (.inr (fun _ => none)))))] x.toNatClampNeg) else none
def Wd.nM (W : Wd) (t : Nat) (x y : Int32) : Option (Nat × Wd) := if W.top < 890000 ∧ (0 ≤ x.toInt ∧ x.toInt < 1000) ∧ (0 ≤ y.toInt ∧ y.toInt < 1000) then
    some (W.top, W.app (.inl (t, x.toNatClampNeg, .inr (.inr (.inr (.inr (fun j => if j < x.toNatClampNeg then some (W.top + 1 + j) else none))))) :: am_rows (7 - t) y.toNatClampNeg x.toNatClampNeg) (x.toNatClampNeg + x.toNatClampNeg * y.toNatClampNeg)) else none
def Wd.nC (W : Wd) (t a : Nat) : Option (Nat × Wd) := if W.top < 890000 then match W.cl a with
    | some (.inl (u, n, .inl f)) => if u = t ∧ (t = 0 ∨ (t = 2 ∧ ∀ j, j < n → (f j).toInt8.toInt32 = f j)) then some (W.top, W.app [.inl (u, n, .inl f)] n) else none
    | _ => none
  else none
def Wd.cp (W : Wd) (b : Nat) (x : Int32) (a : Nat) (y z : Int32) : Option Wd := if b < am_SB then match W.cl b, W.cl a with
    | some (.inl (t, n0, .inl f)), some (.inl (u, n1, .inl g)) => if (t = u ∧ (t = 0 ∨ ((t = 1 ∨ t = 2) ∧ ∀ j, j < n0 → fits (am_el t) (.int (f j)) = true))) ∧ 0 ≤ x.toInt ∧ 0 ≤ y.toInt ∧ 0 ≤ z.toInt ∧ x.toNatClampNeg + z.toNatClampNeg ≤ n0 ∧ y.toNatClampNeg + z.toNatClampNeg ≤ n1 then some (W.scl a (.inl (u, n1, .inl (va_cpy f g x.toNatClampNeg y.toNatClampNeg z.toNatClampNeg)))) else none
    | some (.inl (t, n0, .inr (.inr (.inr (.inr f))))), some (.inl (u, n1, .inr (.inr (.inr (.inr g))))) => if (t = 5 ∧ u = 5) ∧ 0 ≤ x.toInt ∧ 0 ≤ y.toInt ∧ 0 ≤ z.toInt ∧ x.toNatClampNeg + z.toNatClampNeg ≤ n0 ∧ y.toNatClampNeg + z.toNatClampNeg ≤ n1 then some (W.scl a (.inl (u, n1, .inr (.inr (.inr (.inr (va_cpy f g x.toNatClampNeg y.toNatClampNeg z.toNatClampNeg))))))) else none
    | _, _ => none
  else match am_oa b, W.cl a with
    | some (n0, f), some (.inl (u, n1, .inl g)) => if u = 2 ∧ 0 ≤ x.toInt ∧ 0 ≤ y.toInt ∧ 0 ≤ z.toInt ∧ x.toNatClampNeg + z.toNatClampNeg ≤ n0 ∧ y.toNatClampNeg + z.toNatClampNeg ≤ n1 then some (W.scl a (.inl (u, n1, .inl (va_cpy f g x.toNatClampNeg y.toNatClampNeg z.toNatClampNeg)))) else none
    | _, _ => none
/-- of the class -/
def Wd.rc (W : Wd) (a ci : Nat) : Option Unit := match W.cl a with
  | some (.inr (c, _)) => if c = ci then some () else none
  | _ => none
/-- a text -/
def Wd.rs (W : Wd) (a : Nat) : Option Unit := if a < am_SB then W.rc a 8 else if am_isT a then some () else none
/-- an array of the type -/
def Wd.ra (W : Wd) (a t : Nat) : Option Unit := match W.cl a with
  | some (.inl (u, _, _)) => if u = t ∧ (t = 0 ∨ t = 2) then some () else none
  | _ => none
theorem rc_some {W : Wd} {a ci : Nat} {u : Unit} (h : W.rc a ci = some u) : ∃ fs, W.cl a = some (.inr (ci, fs)) := by
  unfold Wd.rc at h
  split at h
  · next c fs hc =>
    split at h
    · next e => subst e; exact ⟨fs, hc⟩
    · cases h
  · cases h
theorem am_recv_c {W : Wd} {a ci q r1 : Nat} {C : String} {as : List Value} {u : Unit} (h : W.rc a ci = some u) (hC : am_cn ci = C ∨ (ci = 9 ∧ C = "java/lang/AbstractStringBuilder")) : am_recv (.invokevirtual q) r1 C (.ref a :: as) (mk W) = true := by
  obtain ⟨fs, hc⟩ := rc_some h
  delta am_recv
  dsimp only
  rw [if_pos (lt_cl hc), mk_cl hc]
  exact decide_eq_true hC
theorem am_recv_i {W : Wd} {a ci q w r1 : Nat} {C : String} {as : List Value} {u : Unit} (h : W.rc a ci = some u) (hC : am_cn ci = C) : am_recv (.invokeinterface q w) r1 C (.ref a :: as) (mk W) = true := by
  obtain ⟨fs, hc⟩ := rc_some h
  delta am_recv
  dsimp only
  rw [mk_cl hc, Bool.and_eq_true]
  exact ⟨decide_eq_true (lt_cl hc), decide_eq_true hC⟩
theorem am_recv_u {W : Wd} {a q r1 : Nat} {C : String} {as : List Value} {u : Unit} (h : W.rc a 9 = some u) (h4 : 400 ≤ r1) : am_recv (.invokespecial q) r1 C (.ref a :: as) (mk W) = true := by
  obtain ⟨fs, hc⟩ := rc_some h
  delta am_recv
  dsimp only
  rw [if_pos h4, mk_cl hc, Bool.and_eq_true]
  exact ⟨decide_eq_true (lt_cl hc), rfl⟩
theorem am_recv_p {W : Wd} {a q r1 : Nat} {C : String} {as : List Value} (h : a < am_SB) (h4 : ¬ 400 ≤ r1) : am_recv (.invokespecial q) r1 C (.ref a :: as) (mk W) = true := by
  delta am_recv
  dsimp only
  rw [if_neg h4]
  exact decide_eq_true h
theorem am_recv_x {W : Wd} {a q r1 : Nat} {as : List Value} {u : Unit} (h : W.rs a = some u) : am_recv (.invokevirtual q) r1 "java/lang/String" (.ref a :: as) (mk W) = true := by
  unfold Wd.rs at h
  by_cases h1 : a < am_SB
  · rw [if_pos h1] at h
    exact am_recv_c h (Or.inl rfl)
  · rw [if_neg h1] at h
    by_cases h2 : am_isT a
    · delta am_recv
      dsimp only
      rw [if_neg h1]
      exact decide_eq_true ⟨h2, rfl⟩
    · rw [if_neg h2] at h; cases h
section OPS
variable {d : Nat} {M : AMe} {scr : ASc} {res : ARe} {pc p r1 r2 a b t : Nat} {ls : ALs} {st : List Value} {W W2 : Wd} {x y z : Int32}
theorem gv_get {v : Value} {i ci : Nat} (hv : W.gv a ci i = some v) : am_get pc ci i ls (.ref a :: st) (mk W) = some (pc + 3, ls, v :: st, mk W, 0, 0) := by
  unfold Wd.gv at hv
  delta am_get
  dsimp only
  by_cases h1 : a < am_SB
  · rw [if_pos h1] at hv ⊢
    split at hv
    · next c fs hc =>
      rw [mk_cl hc]
      dsimp only
      split at hv
      · next e => rw [if_pos e, hv]
      · cases hv
    · cases hv
  · rw [if_neg h1] at hv ⊢
    by_cases h2 : am_isT a ∧ ci = 8
    · rw [if_pos h2] at hv ⊢
      rcases i with _ | _ | i
      · rw [if_pos rfl] at hv; cases hv; rfl
      · rw [if_neg (by omega), if_pos rfl] at hv; cases hv; rfl
      · rw [if_neg (by omega), if_neg (by omega)] at hv; cases hv
    · rw [if_neg h2] at hv; cases hv
theorem x_gI {q : Nat} {v : Int32} (hE : am_find M.2.2.2.2.2.2 pc = some (p, .getfield q, r1, r2)) (hp : p = pc) (hv : W.gI a r1 r2 = some v) (k : Ex d M scr (pc + 3, ls, .int v :: st, mk W, W.kc, W.kn) res) : Ex d M scr (pc, ls, .ref a :: st, mk W, W.kc, W.kn) res := by
  subst hp
  obtain ⟨w, h1, h2⟩ := bd_some hv
  unfold vInt at h2
  split at h2
  · cases h2; exact x_s hE rfl (gv_get h1) k
  · cases h2
theorem x_gR {q : Nat} {v : Nat} (hE : am_find M.2.2.2.2.2.2 pc = some (p, .getfield q, r1, r2)) (hp : p = pc) (hv : W.gR a r1 r2 = some v) (k : Ex d M scr (pc + 3, ls, .ref v :: st, mk W, W.kc, W.kn) res) : Ex d M scr (pc, ls, .ref a :: st, mk W, W.kc, W.kn) res := by
  subst hp
  obtain ⟨w, h1, h2⟩ := bd_some hv
  unfold vRef at h2
  split at h2
  · cases h2; exact x_s hE rfl (gv_get h1) k
  · cases h2
theorem scl_kk (c : AC) : (W.scl a c).kc = W.kc ∧ (W.scl a c).kn = W.kn := ⟨rfl, rfl⟩
theorem x_pv {q : Nat} {v : Value} (hE : am_find M.2.2.2.2.2.2 pc = some (p, .putfield q, r1, r2)) (hp : p = pc) (hv : W.pv a r1 r2 v = some W2) (k : Ex d M scr (pc + 3, ls, st, mk W2, W2.kc, W2.kn) res) : Ex d M scr (pc, ls, v :: .ref a :: st, mk W, W.kc, W.kn) res := by
  unfold Wd.pv at hv
  split at hv
  · next c fs hc =>
    split at hv
    · next h1 =>
      cases hv
      obtain ⟨rfl, h2⟩ := h1
      exact x_putf hE hp (lt_cl hc) (mk_cl hc) h2 (mk_scl hc _) k
    · cases hv
  · cases hv
theorem x_aI (hE : am_find M.2.2.2.2.2.2 pc = some (p, .iaload, r1, r2)) (hp : p = pc) {v : Int32} (hv : W.aI a x = some v) (k : Ex d M scr (pc + 1, ls, .int v :: st, mk W, W.kc, W.kn) res) : Ex d M scr (pc, ls, .int x :: .ref a :: st, mk W, W.kc, W.kn) res := by
  unfold Wd.aI at hv
  split at hv
  · next t n f hc =>
    split at hv
    · next e =>
      subst e
      obtain ⟨i, hi, rfl⟩ := Option.map_eq_some_iff.mp hv
      exact x_iald hE hp (lt_cl hc) (mk_cl hc) hi k
    · cases hv
  · cases hv
theorem x_aB (hE : am_find M.2.2.2.2.2.2 pc = some (p, .baload, r1, r2)) (hp : p = pc) {v : Int32} (hv : W.aB a x = some v) (k : Ex d M scr (pc + 1, ls, .int v :: st, mk W, W.kc, W.kn) res) : Ex d M scr (pc, ls, .int x :: .ref a :: st, mk W, W.kc, W.kn) res := by
  unfold Wd.aB at hv
  split at hv
  · split at hv
    · next t n f hc =>
      split at hv
      · next e =>
        obtain ⟨i, hi, rfl⟩ := Option.map_eq_some_iff.mp hv
        exact x_bald hE hp (lt_cl hc) (mk_cl hc) e hi k
      · cases hv
    · cases hv
  · next h1 =>
    split at hv
    · next n f hc =>
      obtain ⟨i, hi, rfl⟩ := Option.map_eq_some_iff.mp hv
      exact x_baldx hE hp h1 hc hi k
    · cases hv
theorem x_aR (hE : am_find M.2.2.2.2.2.2 pc = some (p, .aaload, r1, r2)) (hp : p = pc) {v : Nat} (hv : W.aR a x = some v) (k : Ex d M scr (pc + 1, ls, .ref v :: st, mk W, W.kc, W.kn) res) : Ex d M scr (pc, ls, .int x :: .ref a :: st, mk W, W.kc, W.kn) res := by
  unfold Wd.aR at hv
  split at hv
  · next t n f hc =>
    split at hv
    · next e =>
      obtain ⟨i, hi, h2⟩ := bd_some hv
      exact x_aaS hE hp (lt_cl hc) (mk_cl hc) e hi h2 k
    · cases hv
  · cases hv
theorem x_ln (hE : am_find M.2.2.2.2.2.2 pc = some (p, .arraylength, r1, r2)) (hp : p = pc) {v : Int32} (hv : W.ln a = some v) (k : Ex d M scr (pc + 1, ls, .int v :: st, mk W, W.kc, W.kn) res) : Ex d M scr (pc, ls, .ref a :: st, mk W, W.kc, W.kn) res := by
  unfold Wd.ln at hv
  split at hv
  · split at hv
    · next t n A hc =>
      split at hv
      · next e => cases hv; exact x_alen hE hp (lt_cl hc) (mk_cl hc) e k
      · cases hv
    · cases hv
  · next h1 =>
    by_cases h2 : a = am_SB
    · rw [if_pos h2] at hv; cases hv
    · rw [if_neg h2] at hv
      by_cases h3 : a = am_SB + 2
      · rw [if_pos h3] at hv
        cases hv
        subst h3
        exact x_alene hE hp k
      · rw [if_neg h3] at hv
        split at hv
        · next n f hc => cases hv; exact x_alenx hE hp h1 h2 h3 hc k
        · cases hv
theorem x_sI (hE : am_find M.2.2.2.2.2.2 pc = some (p, .iastore, r1, r2)) (hp : p = pc) (hv : W.sI a x y = some W2) (k : Ex d M scr (pc + 1, ls, st, mk W2, W2.kc, W2.kn) res) : Ex d M scr (pc, ls, .int y :: .int x :: .ref a :: st, mk W, W.kc, W.kn) res := by
  unfold Wd.sI at hv
  split at hv
  · next t n f hc =>
    split at hv
    · next e =>
      subst e
      obtain ⟨i, hi, rfl⟩ := Option.map_eq_some_iff.mp hv
      exact x_iast hE hp (lt_cl hc) (mk_cl hc) hi (mk_scl hc _) k
    · cases hv
  · cases hv
theorem x_sB (hE : am_find M.2.2.2.2.2.2 pc = some (p, .bastore, r1, r2)) (hp : p = pc) (hv : W.sB a x y = some W2) (k : Ex d M scr (pc + 1, ls, st, mk W2, W2.kc, W2.kn) res) : Ex d M scr (pc, ls, .int y :: .int x :: .ref a :: st, mk W, W.kc, W.kn) res := by
  unfold Wd.sB at hv
  split at hv
  · next t n f hc =>
    split at hv
    · next e =>
      obtain ⟨i, hi, rfl⟩ := Option.map_eq_some_iff.mp hv
      exact x_bast hE hp (lt_cl hc) (mk_cl hc) hi e (mk_scl hc _) k
    · cases hv
  · cases hv
theorem x_sR (hE : am_find M.2.2.2.2.2.2 pc = some (p, .aastore, r1, r2)) (hp : p = pc) (hv : W.sR a x b = some W2) (k : Ex d M scr (pc + 1, ls, st, mk W2, W2.kc, W2.kn) res) : Ex d M scr (pc, ls, .ref b :: .int x :: .ref a :: st, mk W, W.kc, W.kn) res := by
  unfold Wd.sR at hv
  split at hv
  · next t n f c hc hb =>
    split at hv
    · next e =>
      obtain ⟨i, hi, rfl⟩ := Option.map_eq_some_iff.mp hv
      exact x_aast hE hp (lt_cl hc) (lt_cl hb) (mk_cl hc) (mk_cl hb) e hi (mk_scl hc _) k
    · cases hv
  · cases hv
theorem x_sN (hE : am_find M.2.2.2.2.2.2 pc = some (p, .aastore, r1, r2)) (hp : p = pc) (hv : W.sN a x = some W2) (k : Ex d M scr (pc + 1, ls, st, mk W2, W2.kc, W2.kn) res) : Ex d M scr (pc, ls, .null :: .int x :: .ref a :: st, mk W, W.kc, W.kn) res := by
  unfold Wd.sN at hv
  split at hv
  · next t n f hc =>
    split at hv
    · next e =>
      subst e
      obtain ⟨i, hi, rfl⟩ := Option.map_eq_some_iff.mp hv
      exact x_aastn hE hp (lt_cl hc) (mk_cl hc) hi (mk_scl hc _) k
    · cases hv
  · cases hv
theorem x_nO {q : Nat} (hE : am_find M.2.2.2.2.2.2 pc = some (p, .new q, r1, r2)) (hp : p = pc) (hv : W.nO r1 = some (a, W2)) (k : Ex d M scr (pc + 3, ls, .ref a :: st, mk W2, W2.kc, W2.kn) res) : Ex d M scr (pc, ls, st, mk W, W.kc, W.kn) res := by
  unfold Wd.nO at hv
  split at hv
  · next h1 =>
    cases hv
    refine x_newW hE hp h1.2 (by omega) ?_
    rw [mk_app] at k
    exact k
  · cases hv
theorem x_nA {t : Nat} {ty : ArrayType} (hE : am_find M.2.2.2.2.2.2 pc = some (p, .newarray ty, r1, r2)) (hp : p = pc) (ht : (t = 0 ∧ ty = .int) ∨ (t = 1 ∧ ty = .boolean) ∨ (t = 2 ∧ ty = .byte)) (hv : W.nA t x = some (a, W2)) (k : Ex d M scr (pc + 2, ls, .ref a :: st, mk W2, W2.kc, W2.kn) res) : Ex d M scr (pc, ls, .int x :: st, mk W, W.kc, W.kn) res := by
  unfold Wd.nA at hv
  split at hv
  · next h1 =>
    cases hv
    rw [mk_app] at k
    refine x_newai (cl := .inl (t, x.toNatClampNeg, .inl (fun _ => 0))) hE hp (mk_len W) (by have : am_SB = 1000000 := rfl; omega) h1.2 rfl ?_ rfl k
    rcases ht with ⟨rfl, rfl⟩ | ⟨rfl, rfl⟩ | ⟨rfl, rfl⟩
    · exact .inl ⟨rfl, rfl⟩
    · exact .inr (.inl ⟨rfl, rfl⟩)
    · exact .inr (.inr ⟨rfl, rfl⟩)
  · cases hv
theorem x_nQ {q : Nat} (hE : am_find M.2.2.2.2.2.2 pc = some (p, .anewarray q, r1, r2)) (hp : p = pc) (ht : r1 = 3 ∨ r1 = 4 ∨ r1 = 5) (hv : W.nQ r1 x = some (a, W2)) (k : Ex d M scr (pc + 3, ls, .ref a :: st, mk W2, W2.kc, W2.kn) res) : Ex d M scr (pc, ls, .int x :: st, mk W, W.kc, W.kn) res := by
  unfold Wd.nQ at hv
  split at hv
  · next h1 =>
    cases hv
    rw [mk_app] at k
    exact x_newq hE hp (mk_len W) (by have : am_SB = 1000000 := rfl; omega) h1.2 rfl ht rfl k
  · cases hv
theorem x_nM {q w : Nat} (hE : am_find M.2.2.2.2.2.2 pc = some (p, .multianewarray q w, r1, r2)) (hp : p = pc) (hr : r1 = 6 ∨ r1 = 7) (hv : W.nM r1 x y = some (a, W2)) (k : Ex d M scr (pc + 4, ls, .ref a :: st, mk W2, W2.kc, W2.kn) res) : Ex d M scr (pc, ls, .int y :: .int x :: st, mk W, W.kc, W.kn) res := by
  unfold Wd.nM at hv
  split at hv
  · next h1 =>
    cases hv
    rw [mk_app] at k
    have hN : x.toNatClampNeg < 1000 := by
      obtain ⟨n, hn⟩ := Int.eq_ofNat_of_zero_le h1.2.1.1
      have : x.toNatClampNeg = n := by show x.toInt.toNat = n; rw [hn]; rfl
      omega
    have hl := mk_len W
    refine x_newm hE hp rfl rfl (by rw [hl]; have : am_SB = 1000000 := rfl; omega) h1.2.1 h1.2.2 hr rfl ?_
    rw [hl]
    have e : ∀ n : Nat, (1 + x.toNatClampNeg) = (Sum.inl (r1, x.toNatClampNeg, .inr (.inr (.inr (.inr (fun j => if j < x.toNatClampNeg then some (W.top + 1 + j) else none))))) :: am_rows (7 - r1) y.toNatClampNeg x.toNatClampNeg : List AC).length := fun n => by
      rw [List.length_cons, am_rows, List.length_replicate, Nat.add_comm]
    rw [e 0]
    exact k
  · cases hv
theorem x_nC {q : Nat} (hE : am_find M.2.2.2.2.2.2 pc = some (p, .invokevirtual q, r1, r2)) (hp : p = pc) (hst : (st.map Value.category).sum ≤ 8) (ht : (t = 0 ∧ r1 = 904) ∨ (t = 2 ∧ r1 = 905)) (hv : W.nC t a = some (b, W2)) (k : Ex d M scr (pc + 3, ls, .ref b :: st, mk W2, W2.kc, W2.kn) res) : Ex d M scr (pc, ls, .ref a :: st, mk W, W.kc, W.kn) res := by
  unfold Wd.nC at hv
  split at hv
  · next h1 =>
    split at hv
    · next u n f hc =>
      split at hv
      · next h2 =>
        cases hv
        rw [mk_app] at k
        obtain ⟨rfl, h2⟩ := h2
        have hl : (mk W).length < am_SB := by rw [mk_len W]; have : am_SB = 1000000 := rfl; omega
        have k2 : Ex d M scr (pc + 3, ls, .ref (mk W).length :: st, mk W ++ [.inl (u, n, .inl f)], W.kc + 1, W.kn + n) res := by rw [mk_len W]; exact k
        rcases ht with ⟨rfl, rfl⟩ | ⟨rfl, rfl⟩
        · exact x_clone hE hp (lt_cl hc) hl hst (mk_cl hc) rfl k2
        · exact x_cloneb hE hp (lt_cl hc) hl hst (mk_cl hc) (h2.elim (fun z => absurd z (by decide)) (fun z => z.2)) rfl k2
      · cases hv
    · cases hv
  · cases hv
theorem x_cp {q : Nat} (hE : am_find M.2.2.2.2.2.2 pc = some (p, .invokestatic q, 900, r2)) (hp : p = pc) (hst : (st.map Value.category).sum ≤ 8) (hv : W.cp b x a y z = some W2) (k : Ex d M scr (pc + 3, ls, st, mk W2, W2.kc, W2.kn) res) : Ex d M scr (pc, ls, .int z :: .int y :: .ref a :: .int x :: .ref b :: st, mk W, W.kc, W.kn) res := by
  unfold Wd.cp at hv
  split at hv
  · split at hv
    · next t n0 f u n1 g hb hc =>
      split at hv
      · next h1 =>
        cases hv
        obtain ⟨⟨rfl, h2⟩, h3⟩ := h1
        exact x_copy hE hp (lt_cl hc) (lt_cl hb) hst (mk_cl hb) (mk_cl hc) h2 h3 (mk_scl hc _) k
      · cases hv
    · next t n0 f u n1 g hb hc =>
      split at hv
      · next h1 =>
        cases hv
        obtain ⟨⟨rfl, rfl⟩, h3⟩ := h1
        exact x_copyo hE hp (lt_cl hc) (lt_cl hb) hst (mk_cl hb) (mk_cl hc) h3 (mk_scl hc _) k
      · cases hv
    · cases hv
  · next h0 =>
    split at hv
    · next n0 f u n1 g hb hc =>
      split at hv
      · next h1 =>
        cases hv
        obtain ⟨rfl, h3⟩ := h1
        exact x_copyx hE hp (lt_cl hc) h0 hst hb (mk_cl hc) h3 (mk_scl hc _) k
      · cases hv
    · cases hv
theorem x_ckO {q : Nat} {u : Unit} (hE : am_find M.2.2.2.2.2.2 pc = some (p, .checkcast q, 7, r2)) (hp : p = pc) (hv : W.rc a 7 = some u) (k : Ex d M scr (pc + 3, ls, .ref a :: st, mk W, W.kc, W.kn) res) : Ex d M scr (pc, ls, .ref a :: st, mk W, W.kc, W.kn) res := by
  obtain ⟨fs, hc⟩ := rc_some hv
  exact x_castO hE hp (lt_cl hc) (mk_cl hc) k
theorem x_ckA {q : Nat} {u : Unit} (hE : am_find M.2.2.2.2.2.2 pc = some (p, .checkcast q, 100 + t, r2)) (hp : p = pc) (hv : W.ra a t = some u) (k : Ex d M scr (pc + 3, ls, .ref a :: st, mk W, W.kc, W.kn) res) : Ex d M scr (pc, ls, .ref a :: st, mk W, W.kc, W.kn) res := by
  unfold Wd.ra at hv
  split at hv
  · next u n A hc =>
    split at hv
    · next e => obtain ⟨rfl, e⟩ := e; exact x_castA hE hp (lt_cl hc) (mk_cl hc) e k
    · cases hv
  · cases hv
theorem x_acqq {q} {h : AHp} {c n : Nat} (hE : am_find M.2.2.2.2.2.2 pc = some (p, .if_acmp .eq q, r1, r2)) (hp : p = pc) (hab : a = b ∧ ¬ a = am_SB + 1) (k : Ex d M scr (r1, ls, st, h, c, n) res) : Ex d M scr (pc, ls, .ref b :: .ref a :: st, h, c, n) res := by
  obtain ⟨rfl, ha⟩ := hab
  exact x_acq hE hp ha k
theorem x_nulx {q} {h : AHp} {c n : Nat} (hE : am_find M.2.2.2.2.2.2 pc = some (p, .ifnonnull q, r1, r2)) (hp : p = pc) (ha : ¬ a = am_SB + 1) (k : Ex d M scr (r1, ls, st, h, c, n) res) : Ex d M scr (pc, ls, .ref a :: st, h, c, n) res := by
  subst hp
  exact x_s hE rfl (S := (r1, ls, st, h, 0, 0)) (if_pos ha) k
theorem x_nnux {q} {h : AHp} {c n : Nat} (hE : am_find M.2.2.2.2.2.2 pc = some (p, .ifnull q, r1, r2)) (hp : p = pc) (ha : ¬ a = am_SB + 1) (k : Ex d M scr (pc + 3, ls, st, h, c, n) res) : Ex d M scr (pc, ls, .ref a :: st, h, c, n) res := by
  subst hp
  exact x_s hE rfl (S := (p + 3, ls, st, h, 0, 0)) (if_pos ha) k
theorem am_ret_h {C : String} (h : a < am_SB) : am_ret (some (.object C)) .areturn [.ref a] = some (some (.ref a)) := if_pos h
theorem am_ret_y {ty : FieldType} (h : a < am_SB) : am_ret (some (.array ty)) .areturn [.ref a] = some (some (.ref a)) := if_pos h
end OPS
