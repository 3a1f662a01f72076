/-! ===== THE SINGLE CELLS: what the steps come to where the cells are known ===== -/
def upm (m : Nat → Option AC) (a : Nat) (c : AC) : Nat → Option AC := fun b => if b = a then some c else m b
theorem upm_s {m : Nat → Option AC} {a : Nat} {c : AC} : upm m a c a = some c := if_pos rfl
theorem upm_n {m : Nat → Option AC} {a b : Nat} {c : AC} (h : ¬ b = a) : upm m a c b = m b := if_neg h
theorem cl_scl {W : Wd} {a : Nat} {c : AC} (h : W.cl a = some c) (c2 : AC) : (W.scl a c2).cl = upm W.cl a c2 := by
  funext b
  rw [scl_cl h]
  rfl
/-- a write to one cell: what stays, what it costs -/
def Wr (W W' : Wd) (a : Nat) (c : AC) : Prop := W'.cl = upm W.cl a c ∧ W'.pp = W.pp ∧ W'.board = W.board ∧ W'.saved = W.saved ∧ W'.hist = W.hist ∧ W'.inp = W.inp ∧ W'.fps = W.fps ∧ (∀ b, W'.bd b = W.bd b) ∧ (∀ b, W'.fp b = W.fp b) ∧ W'.top = W.top ∧ W'.kc = W.kc ∧ W'.kn = W.kn
theorem Wr.of {W : Wd} {a : Nat} {c : AC} (h : W.cl a = some c) (c2 : AC) : Wr W (W.scl a c2) a c2 := ⟨cl_scl h c2, rfl, rfl, rfl, rfl, rfl, rfl, fun b => scl_bd h b, fun b => scl_fp h b, top_scl h c2, rfl, rfl⟩
/-- the class's objects, as they were -/
def Sm (W W' : Wd) : Prop := W'.pp = W.pp ∧ W'.board = W.board ∧ W'.saved = W.saved ∧ W'.hist = W.hist ∧ W'.inp = W.inp ∧ W'.fps = W.fps ∧ (∀ b, W'.bd b = W.bd b) ∧ (∀ b, W'.fp b = W.fp b)
theorem Sm.rf (W : Wd) : Sm W W := ⟨rfl, rfl, rfl, rfl, rfl, rfl, fun _ => rfl, fun _ => rfl⟩
theorem Sm.tr {X Y Z : Wd} (h : Sm X Y) (k : Sm Y Z) : Sm X Z := by
  obtain ⟨a1, a2, a3, a4, a5, a6, a7, a8⟩ := h
  obtain ⟨b1, b2, b3, b4, b5, b6, b7, b8⟩ := k
  exact ⟨b1.trans a1, b2.trans a2, b3.trans a3, b4.trans a4, b5.trans a5, b6.trans a6, fun b => (b7 b).trans (a7 b), fun b => (b8 b).trans (a8 b)⟩
theorem Wr.sm {W W' : Wd} {a : Nat} {c : AC} (h : Wr W W' a c) : Sm W W' := ⟨h.2.1, h.2.2.1, h.2.2.2.1, h.2.2.2.2.1, h.2.2.2.2.2.1, h.2.2.2.2.2.2.1, h.2.2.2.2.2.2.2.1, h.2.2.2.2.2.2.2.2.1⟩
theorem Wr.co {W W' : Wd} {a : Nat} {c : AC} (h : Wr W W' a c) : Co 0 0 W W' := by
  obtain ⟨-, -, -, -, -, -, -, -, -, h1, h2, h3⟩ := h
  exact ⟨by omega, by omega, by omega⟩
theorem Sm.ci {Q : Ps} {H : List Ps} {S : Option Ps} {r : Int32} {W W' : Wd} (h : Sm W W') (k : CI Q H S r W) : CI Q H S r W' := by
  obtain ⟨h1, h2, h3, h4, h5, h6, h7, h8⟩ := h
  obtain ⟨a1, a2, a3, a4, a5, a6⟩ := k
  refine ⟨by rw [h2]; exact a1, a2, by rw [h1, h3]; exact a3, by rw [h1]; exact a4, a5.mono h4 fun b B q => by rw [h7]; exact q, fun t a ht ha => ?_⟩
  rw [h6] at ha
  obtain ⟨P, p1, p2⟩ := a6 t a ht ha
  exact ⟨P, by rw [h8]; exact p1, p2⟩
/-- new single cells: what stays, what it costs -/
def Nw (W W' : Wd) (L : List AC) (n : Nat) : Prop := (∀ b, W'.cl b = if W.top ≤ b then L[b - W.top]? else W.cl b) ∧ Sm W W' ∧ W'.top = W.top + L.length ∧ W'.kc = W.kc + L.length ∧ W'.kn = W.kn + n
theorem Nw.of {W : Wd} {L : List AC} {n : Nat} (ht : W.top + L.length ≤ 900000) : Nw W (W.app L n) L n := ⟨fun b => cl_app ht b, ⟨rfl, rfl, rfl, rfl, rfl, rfl, fun b => bd_app ht b, fun b => fp_app ht b⟩, top_app W L n, rfl, rfl⟩
theorem Nw.old {W W' : Wd} {L : List AC} {n : Nat} (h : Nw W W' L n) {b : Nat} {c : AC} (hb : W.cl b = some c) : W'.cl b = some c := by
  rw [h.1, if_neg (by have := cl_lt hb; omega)]
  exact hb
theorem Nw.new {W W' : Wd} {L : List AC} {n : Nat} (h : Nw W W' L n) (i : Nat) : W'.cl (W.top + i) = L[i]? := by
  rw [h.1, if_pos (by omega), Nat.add_sub_cancel_left]
theorem Nw.co {W W' : Wd} {L : List AC} {n : Nat} (h : Nw W W' L n) : Co L.length n W W' := by
  obtain ⟨-, -, h1, h2, h3⟩ := h
  exact ⟨by omega, by omega, by omega⟩
/-- two cells that differ lie in two places -/
theorem cl_ne {m : Nat → Option AC} {a b : Nat} {x y : AC} (h1 : m a = some x) (h2 : m b = some y) (h : ¬ x = y) : ¬ a = b := fun q => by
  subst q
  rw [h1] at h2
  cases h2
  exact h rfl
section KN
variable {W : Wd} {a b : Nat}
theorem gI_ {ci i : Nat} {fs : List Value} {v : Int32} (h : W.cl a = some (.inr (ci, fs))) (hv : fs[i]? = some (.int v)) : W.gI a ci i = some v := by
  unfold Wd.gI Wd.gv
  rw [if_pos (lt_cl h), h]
  dsimp only
  rw [if_pos rfl, hv]
  rfl
theorem gR_ {ci i : Nat} {fs : List Value} {v : Nat} (h : W.cl a = some (.inr (ci, fs))) (hv : fs[i]? = some (.ref v)) : W.gR a ci i = some v := by
  unfold Wd.gR Wd.gv
  rw [if_pos (lt_cl h), h]
  dsimp only
  rw [if_pos rfl, hv]
  rfl
theorem pv_ {ci i : Nat} {fs : List Value} {v : Value} (h : W.cl a = some (.inr (ci, fs))) (hv : i < fs.length ∧ fits (am_ft ci i) v = true ∧ narrow (am_ft ci i) v = v ∧ ¬ v = .ref (am_SB + 1)) : ∃ W', W.pv a ci i v = some W' ∧ Wr W W' a (.inr (ci, fs.set i v)) := by
  refine ⟨W.scl a (.inr (ci, fs.set i v)), ?_, Wr.of h _⟩
  unfold Wd.pv
  rw [h]
  exact if_pos ⟨rfl, hv⟩
theorem aI_ {n i : Nat} {f : Nat → Int32} (h : W.cl a = some (.inl (0, n, .inl f))) (hi : i < n) (hn : n < 2 ^ 31) : W.aI a (nI i) = some (f i) := by
  unfold Wd.aI
  rw [h]
  dsimp only
  rw [if_pos rfl, ixn hi hn]
  rfl
theorem aB_ {t n i : Nat} {f : Nat → Int32} (h : W.cl a = some (.inl (t, n, .inl f))) (ht : t = 1 ∨ t = 2) (hi : i < n) (hn : n < 2 ^ 31) : W.aB a (nI i) = some (f i) := by
  unfold Wd.aB
  rw [if_pos (lt_cl h), h]
  dsimp only
  rw [if_pos ht, ixn hi hn]
  rfl
theorem aR_ {t n i v : Nat} {f : Nat → Option Nat} (h : W.cl a = some (.inl (t, n, .inr (.inr (.inr (.inr f)))))) (ht : 3 ≤ t ∧ t < 8) (hi : i < n) (hn : n < 2 ^ 31) (hv : f i = some v) : W.aR a (nI i) = some v := by
  unfold Wd.aR
  rw [h]
  dsimp only
  rw [if_pos ht, ixn hi hn]
  exact hv
theorem ln_ {t n : Nat} {A} (h : W.cl a = some (.inl (t, n, A))) (ht : t < 8) : W.ln a = some (nI n) := by
  unfold Wd.ln
  rw [if_pos (lt_cl h), h]
  dsimp only
  rw [if_pos ht]
  rfl
theorem sI_ {n i : Nat} {f : Nat → Int32} (h : W.cl a = some (.inl (0, n, .inl f))) (hi : i < n) (hn : n < 2 ^ 31) (y : Int32) : ∃ W', W.sI a (nI i) y = some W' ∧ Wr W W' a (.inl (0, n, .inl (upd f i y))) := by
  refine ⟨_, ?_, Wr.of h _⟩
  unfold Wd.sI
  rw [h]
  dsimp only
  rw [if_pos rfl, ixn hi hn]
  rfl
theorem sB_ {t n i : Nat} {f : Nat → Int32} {y : Int32} (h : W.cl a = some (.inl (t, n, .inl f))) (hi : i < n) (hn : n < 2 ^ 31) (hy : (t = 1 ∧ (y = 0 ∨ y = 1)) ∨ (t = 2 ∧ y.toInt8.toInt32 = y)) : ∃ W', W.sB a (nI i) y = some W' ∧ Wr W W' a (.inl (t, n, .inl (upd f i y))) := by
  refine ⟨_, ?_, Wr.of h _⟩
  unfold Wd.sB
  rw [h]
  dsimp only
  rw [if_pos hy, ixn hi hn]
  rfl
theorem sR_ {t n i : Nat} {f : Nat → Option Nat} {c : AC} (h : W.cl a = some (.inl (t, n, .inr (.inr (.inr (.inr f)))))) (hb : W.cl b = some c) (hc : am_mayb t c = true) (hi : i < n) (hn : n < 2 ^ 31) : ∃ W', W.sR a (nI i) b = some W' ∧ Wr W W' a (.inl (t, n, .inr (.inr (.inr (.inr (va_up f i (some b))))))) := by
  refine ⟨_, ?_, Wr.of h _⟩
  unfold Wd.sR
  rw [h, hb]
  dsimp only
  rw [if_pos hc, ixn hi hn]
  rfl
theorem sN_ {n i : Nat} {f : Nat → Option Nat} (h : W.cl a = some (.inl (5, n, .inr (.inr (.inr (.inr f)))))) (hi : i < n) (hn : n < 2 ^ 31) : ∃ W', W.sN a (nI i) = some W' ∧ Wr W W' a (.inl (5, n, .inr (.inr (.inr (.inr (va_up f i none)))))) := by
  refine ⟨_, ?_, Wr.of h _⟩
  unfold Wd.sN
  rw [h]
  dsimp only
  rw [if_pos rfl, ixn hi hn]
  rfl
theorem rc_ {ci : Nat} {fs : List Value} (h : W.cl a = some (.inr (ci, fs))) : W.rc a ci = some () := by
  unfold Wd.rc
  rw [h]
  exact if_pos rfl
theorem ra_ {t n : Nat} {A} (h : W.cl a = some (.inl (t, n, A))) (ht : t = 0 ∨ t = 2) : W.ra a t = some () := by
  unfold Wd.ra
  rw [h]
  exact if_pos ⟨rfl, ht⟩
theorem rp_ (h : a < am_SB) : (if a < am_SB then some () else none) = some () := if_pos h
theorem nO_ {ci : Nat} (hc : ci < 12) (ht : W.top < 890000) : ∃ W', W.nO ci = some (W.top, W') ∧ Nw W W' [.inr (ci, am_fd ci)] (am_fd ci).length := by
  refine ⟨_, ?_, Nw.of (n := (am_fd ci).length) (show W.top + 1 ≤ 900000 by omega)⟩
  unfold Wd.nO
  exact if_pos ⟨ht, hc⟩
theorem nI_cl {n : Nat} (hn : n < 2147483647) : (nI n).toNatClampNeg = n ∧ (nI n).toInt = n := by
  obtain ⟨⟨h1, -⟩, h2⟩ := ix_some (ixn (n := n + 1) (show n < n + 1 by omega) (by omega))
  obtain ⟨k, hk⟩ := Int.eq_ofNat_of_zero_le h1
  have h3 : (nI n).toInt.toNat = n := h2
  rw [hk] at h3
  refine ⟨h2, ?_⟩
  rw [hk]
  exact congrArg Int.ofNat h3
theorem nA_ {t n : Nat} (hn : n < 1000000) (ht : W.top < 890000) : ∃ W', W.nA t (nI n) = some (W.top, W') ∧ Nw W W' [.inl (t, n, .inl (fun _ => 0))] n := by
  obtain ⟨h1, h2⟩ := nI_cl (n := n) (by omega)
  refine ⟨_, ?_, Nw.of (L := [.inl (t, n, .inl (fun _ => 0))]) (n := n) (show W.top + 1 ≤ 900000 by omega)⟩
  unfold Wd.nA
  rw [h1, h2]
  exact if_pos ⟨ht, by omega, by omega⟩
theorem nQ_ {t n : Nat} (hn : n < 1000000) (ht : W.top < 890000) : ∃ W', W.nQ t (nI n) = some (W.top, W') ∧ Nw W W' [.inl (t, n, .inr (.inr (.inr (.inr (fun _ => none)))))] n := by
  obtain ⟨h1, h2⟩ := nI_cl (n := n) (by omega)
  refine ⟨_, ?_, Nw.of (L := [.inl (t, n, .inr (.inr (.inr (.inr (fun _ => none)))))]) (n := n) (show W.top + 1 ≤ 900000 by omega)⟩
  unfold Wd.nQ
  rw [h1, h2]
  exact if_pos ⟨ht, by omega, by omega⟩
theorem nM_ {t n k : Nat} (hn : n < 1000) (hk : k < 1000) (ht : W.top < 890000) : ∃ W', W.nM t (nI n) (nI k) = some (W.top, W') ∧ Nw W W' (.inl (t, n, .inr (.inr (.inr (.inr (fun j => if j < n then some (W.top + 1 + j) else none))))) :: am_rows (7 - t) k n) (n + n * k) := by
  obtain ⟨h1, h2⟩ := nI_cl (n := n) (by omega)
  obtain ⟨k1, k2⟩ := nI_cl (n := k) (by omega)
  refine ⟨_, ?_, Nw.of (L := .inl (t, n, .inr (.inr (.inr (.inr (fun j => if j < n then some (W.top + 1 + j) else none))))) :: am_rows (7 - t) k n) (n := n + n * k) ?_⟩
  · unfold Wd.nM
    rw [h1, h2, k1, k2]
    exact if_pos ⟨ht, ⟨by omega, by omega⟩, by omega, by omega⟩
  · rw [List.length_cons, am_rows, List.length_replicate]
    omega
theorem nC_ {n : Nat} {f : Nat → Int32} (h : W.cl a = some (.inl (0, n, .inl f))) (ht : W.top < 890000) : ∃ W', W.nC 0 a = some (W.top, W') ∧ Nw W W' [.inl (0, n, .inl f)] n := by
  refine ⟨_, ?_, Nw.of (L := [.inl (0, n, .inl f)]) (n := n) (show W.top + 1 ≤ 900000 by omega)⟩
  unfold Wd.nC
  rw [if_pos ht, h]
  exact if_pos ⟨rfl, .inl rfl⟩
theorem cp_ {t n1 n2 x y z : Nat} {f g : Nat → Int32} (hb : W.cl b = some (.inl (t, n1, .inl f))) (ha : W.cl a = some (.inl (t, n2, .inl g))) (ht : t = 0 ∨ ((t = 1 ∨ t = 2) ∧ ∀ j, j < n1 → fits (am_el t) (.int (f j)) = true)) (hx : x + z ≤ n1) (hy : y + z ≤ n2) (h1 : n1 < 2147483647) (h2 : n2 < 2147483647) : ∃ W', W.cp b (nI x) a (nI y) (nI z) = some W' ∧ Wr W W' a (.inl (t, n2, .inl (va_cpy f g x y z))) := by
  obtain ⟨x1, x2⟩ := nI_cl (n := x) (by omega)
  obtain ⟨y1, y2⟩ := nI_cl (n := y) (by omega)
  obtain ⟨z1, z2⟩ := nI_cl (n := z) (by omega)
  refine ⟨_, ?_, Wr.of ha _⟩
  unfold Wd.cp
  rw [if_pos (lt_cl hb), hb, ha]
  dsimp only
  rw [x1, x2, y1, y2, z1, z2]
  exact if_pos ⟨⟨rfl, ht⟩, by omega, by omega, by omega, hx, hy⟩
theorem cpo_ {n1 n2 x y z : Nat} {f g : Nat → Option Nat} (hb : W.cl b = some (.inl (5, n1, .inr (.inr (.inr (.inr f)))))) (ha : W.cl a = some (.inl (5, n2, .inr (.inr (.inr (.inr g)))))) (hx : x + z ≤ n1) (hy : y + z ≤ n2) (h1 : n1 < 2147483647) (h2 : n2 < 2147483647) : ∃ W', W.cp b (nI x) a (nI y) (nI z) = some W' ∧ Wr W W' a (.inl (5, n2, .inr (.inr (.inr (.inr (va_cpy f g x y z)))))) := by
  obtain ⟨x1, x2⟩ := nI_cl (n := x) (by omega)
  obtain ⟨y1, y2⟩ := nI_cl (n := y) (by omega)
  obtain ⟨z1, z2⟩ := nI_cl (n := z) (by omega)
  refine ⟨_, ?_, Wr.of ha _⟩
  unfold Wd.cp
  rw [if_pos (lt_cl hb), hb, ha]
  dsimp only
  rw [x1, x2, y1, y2, z1, z2]
  exact if_pos ⟨⟨rfl, rfl⟩, by omega, by omega, by omega, hx, hy⟩
end KN
