/-! ===== THE WORLD (by wip/whole/genwd.py) ===== -/
def PPt : Type := Int32 × Int32
def PPt.hasSaved (S : PPt) : Int32 := S.1
def PPt.refusal (S : PPt) : Int32 := S.2
def PPt.w_hasSaved (S : PPt) (v : Int32) : PPt := (v, S.2)
def PPt.w_refusal (S : PPt) (v : Int32) : PPt := (S.1, v)
def PPt.cells (b : Nat) (S : PPt) : List AC := [.inr (5, [.ref 1, .ref 7, .int S.hasSaved, .ref 13, .ref 15, .ref 23, .ref 27, .ref 28, .int S.refusal])]
def Hs : Type := (Nat → Option Nat) × Int32 × Int32
def Hs.ring (S : Hs) : (Nat → Option Nat) := S.1
def Hs.oldest (S : Hs) : Int32 := S.2.1
def Hs.size (S : Hs) : Int32 := S.2.2
def Hs.w_ring (S : Hs) (v : (Nat → Option Nat)) : Hs := (v, S.2.1, S.2.2)
def Hs.w_oldest (S : Hs) (v : Int32) : Hs := (S.1, v, S.2.2)
def Hs.w_size (S : Hs) (v : Int32) : Hs := (S.1, S.2.1, v)
def Hs.cells (b : Nat) (S : Hs) : List AC := [.inr (2, [.ref (b + 1), .int S.oldest, .int S.size]), .inl (3, 10, .inr (.inr (.inr (.inr S.ring))))]
def Qr.cells (N : Nat) (f : Nat → Option Nat) : List AC := [.inl (4, N, .inr (.inr (.inr (.inr f))))]
theorem PPt.s_hasSaved {b : Nat} {S S2 : PPt} {v : Int32} {fs : List Value} (hc : (PPt.cells b S)[0]? = some (.inr (5, fs))) (h : some (S.w_hasSaved v) = some S2) : (PPt.cells b S).set 0 (.inr (5, fs.set 2 (.int v))) = PPt.cells b S2 := by
  cases h
  cases hc
  delta PPt.cells PPt.w_hasSaved PPt.hasSaved PPt.refusal
  rfl
theorem PPt.s_refusal {b : Nat} {S S2 : PPt} {v : Int32} {fs : List Value} (hc : (PPt.cells b S)[0]? = some (.inr (5, fs))) (h : some (S.w_refusal v) = some S2) : (PPt.cells b S).set 0 (.inr (5, fs.set 8 (.int v))) = PPt.cells b S2 := by
  cases h
  cases hc
  delta PPt.cells PPt.w_refusal PPt.hasSaved PPt.refusal
  rfl
theorem Hs.s_oldest {b : Nat} {S S2 : Hs} {v : Int32} {fs : List Value} (hc : (Hs.cells b S)[0]? = some (.inr (2, fs))) (h : some (S.w_oldest v) = some S2) : (Hs.cells b S).set 0 (.inr (2, fs.set 1 (.int v))) = Hs.cells b S2 := by
  cases h
  cases hc
  delta Hs.cells Hs.w_oldest Hs.ring Hs.oldest Hs.size
  rfl
theorem Hs.s_size {b : Nat} {S S2 : Hs} {v : Int32} {fs : List Value} (hc : (Hs.cells b S)[0]? = some (.inr (2, fs))) (h : some (S.w_size v) = some S2) : (Hs.cells b S).set 0 (.inr (2, fs.set 2 (.int v))) = Hs.cells b S2 := by
  cases h
  cases hc
  delta Hs.cells Hs.w_size Hs.ring Hs.oldest Hs.size
  rfl
theorem Hs.s_ring {b : Nat} {S S2 : Hs} {v : Nat → Option Nat} (h : some (S.w_ring v) = some S2) : (Hs.cells b S).set 1 (.inl (3, 10, .inr (.inr (.inr (.inr v))))) = Hs.cells b S2 := by
  cases h
  rfl
theorem Qr.s_ {N : Nat} {f f2 : Nat → Option Nat} (h : some f = some f2) {g : Nat → Option Nat} : (Qr.cells N g).set 0 (.inl (4, N, .inr (.inr (.inr (.inr f))))) = Qr.cells N f2 := by
  cases h
  rfl
theorem Tx.s_length {b : Nat} {S S2 : Tx} {v : Int32} {fs : List Value} (hc : (Tx.cells b S)[0]? = some (.inr (4, fs))) (h : some (S.w_length v) = some S2) : (Tx.cells b S).set 0 (.inr (4, fs.set 1 (.int v))) = Tx.cells b S2 := by
  cases h
  cases hc
  delta Tx.cells Tx.w_length Tx.bytes Tx.length Tx.draft Tx.kind Tx.start Tx.stop Tx.value
  rfl
theorem Tx.s_kind {b : Nat} {S S2 : Tx} {v : Int32} {fs : List Value} (hc : (Tx.cells b S)[0]? = some (.inr (4, fs))) (h : some (S.w_kind v) = some S2) : (Tx.cells b S).set 0 (.inr (4, fs.set 3 (.int v))) = Tx.cells b S2 := by
  cases h
  cases hc
  delta Tx.cells Tx.w_kind Tx.bytes Tx.length Tx.draft Tx.kind Tx.start Tx.stop Tx.value
  rfl
theorem Tx.s_start {b : Nat} {S S2 : Tx} {v : Int32} {fs : List Value} (hc : (Tx.cells b S)[0]? = some (.inr (4, fs))) (h : some (S.w_start v) = some S2) : (Tx.cells b S).set 0 (.inr (4, fs.set 4 (.int v))) = Tx.cells b S2 := by
  cases h
  cases hc
  delta Tx.cells Tx.w_start Tx.bytes Tx.length Tx.draft Tx.kind Tx.start Tx.stop Tx.value
  rfl
theorem Tx.s_stop {b : Nat} {S S2 : Tx} {v : Int32} {fs : List Value} (hc : (Tx.cells b S)[0]? = some (.inr (4, fs))) (h : some (S.w_stop v) = some S2) : (Tx.cells b S).set 0 (.inr (4, fs.set 5 (.int v))) = Tx.cells b S2 := by
  cases h
  cases hc
  delta Tx.cells Tx.w_stop Tx.bytes Tx.length Tx.draft Tx.kind Tx.start Tx.stop Tx.value
  rfl
theorem Tx.s_value {b : Nat} {S S2 : Tx} {v : Int32} {fs : List Value} (hc : (Tx.cells b S)[0]? = some (.inr (4, fs))) (h : some (S.w_value v) = some S2) : (Tx.cells b S).set 0 (.inr (4, fs.set 6 (.int v))) = Tx.cells b S2 := by
  cases h
  cases hc
  delta Tx.cells Tx.w_value Tx.bytes Tx.length Tx.draft Tx.kind Tx.start Tx.stop Tx.value
  rfl
theorem Tx.s_bytes {b : Nat} {S S2 : Tx} {v : Nat → Int32} (h : some (S.w_bytes v) = some S2) : (Tx.cells b S).set 1 (.inl (0, 400, .inl v)) = Tx.cells b S2 := by
  cases h
  delta Tx.cells Tx.w_bytes Tx.bytes Tx.length Tx.draft Tx.kind Tx.start Tx.stop Tx.value
  rfl
theorem rg_sub {H : AHp} {b k N : Nat} {L C : List AC} (r : Rg H b L) (hk : k + C.length ≤ L.length) (hC : ∀ i, i < C.length → L[k + i]? = C[i]?) (hN : C.length = N) : Rg H (b + k) C := by
  subst hN
  refine ⟨by have := r.1; omega, by have := r.2.1; omega, fun i hi => ?_⟩
  rw [show b + k + i = b + (k + i) by omega, r.2.2 (k + i) (by omega), hC i hi]
theorem rg_draft {H : AHp} {b : Nat} {T : Tx} (r : Rg H b (Tx.cells b T)) : Rg H (b + 2) (Bd.cells (b + 2) T.draft) :=
  rg_sub r (Nat.le_refl 8) (fun i hi => by
    match i, hi with
    | 0, _ => rfl
    | 1, _ => rfl
    | 2, _ => rfl
    | 3, _ => rfl
    | 4, _ => rfl
    | 5, _ => rfl
    | i + 6, hi => exact absurd hi (by show ¬ i + 6 < 6; omega)) rfl
theorem ws_draft {b : Nat} {T T2 : Tx} {B2 : Bd} {i : Nat} {c : AC} (h : (Bd.cells (b + 2) T.draft).set i c = Bd.cells (b + 2) B2) (h2 : some (T.w_draft B2) = some T2) : (Tx.cells b T).set (2 + i) c = Tx.cells b T2 := by
  cases h2
  have e : Tx.cells b (T.w_draft B2) = .inr (4, [.ref (b + 1), .int T.length, .ref (b + 2), .int T.kind, .int T.start, .int T.stop, .int T.value]) :: .inl (0, 400, .inl T.bytes) :: Bd.cells (b + 2) B2 := rfl
  rw [e, ← h, Nat.add_comm 2 i]
  rfl
theorem put_draft {b : Nat} {h : AHp} {T : Tx} {B2 : Bd} (hh : b + 8 ≤ h.length) : hput (hput h b (Tx.cells b T)) (b + 2) (Bd.cells (b + 2) B2) = hput h b (Tx.cells b (T.w_draft B2)) := by
  have l1 : (Tx.cells b T).length = 8 := rfl
  have l2 : (Tx.cells b (T.w_draft B2)).length = 8 := rfl
  have l3 : (Bd.cells (b + 2) B2).length = 6 := rfl
  apply List.ext_getElem?
  intro j
  rw [hput_get (by rw [hput_len (by rw [l1]; exact hh), l3]; omega), hput_get (by rw [l1]; exact hh), hput_get (by rw [l2]; exact hh), l1, l2, l3]
  by_cases h1 : b + 2 ≤ j ∧ j < b + 2 + 6
  · rw [if_pos h1, if_pos (by omega)]
    obtain ⟨k, rfl⟩ : ∃ k, j = b + 2 + k := ⟨j - (b + 2), by omega⟩
    rw [show b + 2 + k - (b + 2) = k by omega, show b + 2 + k - b = k + 2 by omega]
    rfl
  · rw [if_neg h1]
    by_cases h2 : b ≤ j ∧ j < b + 8
    · rw [if_pos h2, if_pos h2]
      obtain ⟨k, rfl⟩ : ∃ k, j = b + k := ⟨j - b, by omega⟩
      rw [show b + k - b = k by omega]
      have : k < 2 := by omega
      match k, this with
      | 0, _ => rfl
      | 1, _ => rfl
    · rw [if_neg h2, if_neg h2]
theorem wc_draft {scr : ASc} {b D mi : Nat} {h : AHp} {T T2 : Tx} {B2 : Bd} {as : List Value} {v : Option Value} (hb : b + 8 ≤ am_SB) (hh : b + 8 ≤ h.length) (hr : ∀ H : AHp, b + 2 + 6 ≤ am_SB → b + 2 + 6 ≤ H.length → Rn scr D mi as (hput H (b + 2) (Bd.cells (b + 2) T.draft)) (.inl v, hput H (b + 2) (Bd.cells (b + 2) B2), 0, 0)) (h2 : some (T.w_draft B2) = some T2) : Rn scr D mi as (hput h b (Tx.cells b T)) (.inl v, hput h b (Tx.cells b T2), 0, 0) := by
  cases h2
  have q := hr (hput h b (Tx.cells b T)) (by omega) (by rw [hput_len (show b + (Tx.cells b T).length ≤ h.length from hh)]; omega)
  rw [(rg_draft (hp_rg hb hh rfl)).back, put_draft hh] at q
  exact q
def Dy : Type := Bd ⊕ FP ⊕ AC
def dsz : Dy → Nat
  | .inl _ => 6
  | .inr (.inl _) => 6
  | .inr (.inr _) => 1
def dcl (b : Nat) : Dy → List AC
  | .inl B => Bd.cells b B
  | .inr (.inl P) => FP.cells b P
  | .inr (.inr c) => [c]
def dynCells : Nat → List Dy → List AC
  | _, [] => []
  | b, x :: l => dcl b x ++ dynCells (b + dsz x) l
def dtot : List Dy → Nat
  | [] => 0
  | x :: l => dsz x + dtot l
def dlk : List Dy → Nat → Option Dy
  | [], _ => none
  | x :: l, a => if a = 0 then some x else if a < dsz x then none else dlk l (a - dsz x)
def dset : List Dy → Nat → Dy → List Dy
  | [], _, _ => []
  | x :: l, a, y => if a = 0 then y :: l else if a < dsz x then x :: l else x :: dset l (a - dsz x) y
theorem dsz_pos (x : Dy) : 0 < dsz x := by
  rcases x with x | x | x <;> first | exact Nat.zero_lt_succ 5 | exact Nat.zero_lt_one
theorem dcl_len (b : Nat) (x : Dy) : (dcl b x).length = dsz x := by
  rcases x with x | x | x <;> rfl
theorem dynCells_len : ∀ (b : Nat) (l : List Dy), (dynCells b l).length = dtot l
  | _, [] => rfl
  | b, x :: l => by
    show (dcl b x ++ dynCells (b + dsz x) l).length = dsz x + dtot l
    rw [List.length_append, dynCells_len (b + dsz x) l, dcl_len]
theorem dtot_app : ∀ (l m : List Dy), dtot (l ++ m) = dtot l + dtot m
  | [], m => (Nat.zero_add _).symm
  | x :: l, m => by
    show dsz x + dtot (l ++ m) = dsz x + dtot l + dtot m
    rw [dtot_app l m, Nat.add_assoc]
theorem dynCells_app : ∀ (b : Nat) (l m : List Dy), dynCells b (l ++ m) = dynCells b l ++ dynCells (b + dtot l) m
  | b, [], m => by simp [dynCells, dtot]
  | b, x :: l, m => by
    show dcl b x ++ dynCells (b + dsz x) (l ++ m) = dcl b x ++ dynCells (b + dsz x) l ++ dynCells (b + (dsz x + dtot l)) m
    rw [dynCells_app (b + dsz x) l m, List.append_assoc, Nat.add_assoc]
theorem dlk_split : ∀ (l : List Dy) (a : Nat) (x : Dy), dlk l a = some x → ∃ p q, l = p ++ (x :: q) ∧ dtot p = a ∧ ∀ y, dset l a y = p ++ (y :: q)
  | [], _, _, h => by cases h
  | z :: l, a, x, h => by
    unfold dlk at h
    by_cases h1 : a = 0
    · rw [if_pos h1] at h
      cases h
      refine ⟨[], l, rfl, h1.symm, fun y => ?_⟩
      unfold dset
      rw [if_pos h1]; rfl
    · rw [if_neg h1] at h
      by_cases h2 : a < dsz z
      · rw [if_pos h2] at h; cases h
      · rw [if_neg h2] at h
        obtain ⟨p, q, e1, e2, e3⟩ := dlk_split l _ x h
        refine ⟨z :: p, q, by rw [e1]; rfl, ?_, fun y => ?_⟩
        · show dsz z + dtot p = a
          rw [e2]; omega
        · show (if a = 0 then y :: l else if a < dsz z then z :: l else z :: dset l (a - dsz z) y) = _
          rw [if_neg h1, if_neg h2, e3]; rfl
theorem dlk_lt : ∀ {l : List Dy} {a : Nat} {x : Dy}, dlk l a = some x → a + dsz x ≤ dtot l := fun {l a x} h => by
  obtain ⟨p, q, rfl, rfl, -⟩ := dlk_split l a x h
  rw [dtot_app]
  show dtot p + dsz x ≤ dtot p + (dsz x + dtot q)
  omega
theorem dlk_app : ∀ {l : List Dy} (m : List Dy) {a : Nat}, a < dtot l → dlk (l ++ m) a = dlk l a
  | [], m, a, h => absurd h (Nat.not_lt_zero a)
  | z :: l, m, a, h => by
    have h : a < dsz z + dtot l := h
    show (if a = 0 then some z else if a < dsz z then none else dlk (l ++ m) (a - dsz z)) = (if a = 0 then some z else if a < dsz z then none else dlk l (a - dsz z))
    by_cases h1 : a = 0
    · rw [if_pos h1, if_pos h1]
    · rw [if_neg h1, if_neg h1]
      by_cases h2 : a < dsz z
      · rw [if_pos h2, if_pos h2]
      · rw [if_neg h2, if_neg h2, dlk_app m (by omega)]
theorem dlk_appr : ∀ (l m : List Dy) (a : Nat), dlk (l ++ m) (dtot l + a) = dlk m a
  | [], m, a => by
    show dlk m (0 + a) = _
    rw [Nat.zero_add]
  | z :: l, m, a => by
    have hz := dsz_pos z
    show (if dsz z + dtot l + a = 0 then some z else if dsz z + dtot l + a < dsz z then none else dlk (l ++ m) (dsz z + dtot l + a - dsz z)) = _
    rw [if_neg (by omega), if_neg (by omega), show dsz z + dtot l + a - dsz z = dtot l + a by omega, dlk_appr l m a]
theorem dlk_none {l : List Dy} {a : Nat} (h : dtot l ≤ a) : dlk l a = none := by
  cases h1 : dlk l a with
  | none => rfl
  | some x =>
    have := dlk_lt h1
    have := dsz_pos x
    omega
/-- one more at the end -/
theorem dlk_push (l : List Dy) (y : Dy) (a : Nat) : dlk (l ++ [y]) a = if a = dtot l then some y else dlk l a := by
  by_cases h1 : a < dtot l
  · rw [dlk_app [y] h1, if_neg (by omega)]
  · obtain ⟨k, rfl⟩ : ∃ k, a = dtot l + k := ⟨a - dtot l, by omega⟩
    rw [dlk_appr]
    by_cases h2 : k = 0
    · subst h2; rw [if_pos (Nat.add_zero _)]; rfl
    · rw [if_neg (by omega), dlk_none (l := l) (by omega)]
      show (if k = 0 then some y else if k < dsz y then none else none) = none
      rw [if_neg h2]; split <;> rfl
/-- one put in another's place -/
theorem dlk_set {l : List Dy} {a : Nat} {x y : Dy} (h : dlk l a = some x) (hs : dsz y = dsz x) (b : Nat) : dlk (dset l a y) b = if b = a then some y else dlk l b := by
  obtain ⟨p, q, rfl, rfl, e3⟩ := dlk_split l a x h
  rw [e3]
  by_cases h1 : b < dtot p
  · rw [dlk_app _ h1, if_neg (by omega), dlk_app _ h1]
  · obtain ⟨k, rfl⟩ : ∃ k, b = dtot p + k := ⟨b - dtot p, by omega⟩
    rw [dlk_appr, dlk_appr]
    show (if k = 0 then some y else if k < dsz y then none else dlk q (k - dsz y)) = if dtot p + k = dtot p then some y else if k = 0 then some x else if k < dsz x then none else dlk q (k - dsz x)
    by_cases h2 : k = 0
    · subst h2; rw [if_pos rfl, if_pos (Nat.add_zero _)]
    · rw [if_neg h2, if_neg (show ¬ dtot p + k = dtot p by omega), if_neg h2, hs]
theorem dtot_set {l : List Dy} {a : Nat} {x y : Dy} (h : dlk l a = some x) (hs : dsz y = dsz x) : dtot (dset l a y) = dtot l := by
  obtain ⟨p, q, rfl, rfl, e3⟩ := dlk_split l a x h
  rw [e3, dtot_app, dtot_app]
  show dtot p + (dsz y + dtot q) = dtot p + (dsz x + dtot q)
  rw [hs]
def Wd : Type := PPt × Bd × Bd × Hs × Tx × Ol × (Nat → Option Nat) × (Nat → Int32) × List Dy × Nat × Nat
def Wd.pp (S : Wd) : PPt := S.1
def Wd.board (S : Wd) : Bd := S.2.1
def Wd.saved (S : Wd) : Bd := S.2.2.1
def Wd.hist (S : Wd) : Hs := S.2.2.2.1
def Wd.inp (S : Wd) : Tx := S.2.2.2.2.1
def Wd.ol (S : Wd) : Ol := S.2.2.2.2.2.1
def Wd.fps (S : Wd) : (Nat → Option Nat) := S.2.2.2.2.2.2.1
def Wd.row (S : Wd) : (Nat → Int32) := S.2.2.2.2.2.2.2.1
def Wd.dyn (S : Wd) : List Dy := S.2.2.2.2.2.2.2.2.1
def Wd.kc (S : Wd) : Nat := S.2.2.2.2.2.2.2.2.2.1
def Wd.kn (S : Wd) : Nat := S.2.2.2.2.2.2.2.2.2.2
def Wd.w_pp (S : Wd) (v : PPt) : Wd := (v, S.2.1, S.2.2.1, S.2.2.2.1, S.2.2.2.2.1, S.2.2.2.2.2.1, S.2.2.2.2.2.2.1, S.2.2.2.2.2.2.2.1, S.2.2.2.2.2.2.2.2.1, S.2.2.2.2.2.2.2.2.2.1, S.2.2.2.2.2.2.2.2.2.2)
def Wd.w_board (S : Wd) (v : Bd) : Wd := (S.1, v, S.2.2.1, S.2.2.2.1, S.2.2.2.2.1, S.2.2.2.2.2.1, S.2.2.2.2.2.2.1, S.2.2.2.2.2.2.2.1, S.2.2.2.2.2.2.2.2.1, S.2.2.2.2.2.2.2.2.2.1, S.2.2.2.2.2.2.2.2.2.2)
def Wd.w_saved (S : Wd) (v : Bd) : Wd := (S.1, S.2.1, v, S.2.2.2.1, S.2.2.2.2.1, S.2.2.2.2.2.1, S.2.2.2.2.2.2.1, S.2.2.2.2.2.2.2.1, S.2.2.2.2.2.2.2.2.1, S.2.2.2.2.2.2.2.2.2.1, S.2.2.2.2.2.2.2.2.2.2)
def Wd.w_hist (S : Wd) (v : Hs) : Wd := (S.1, S.2.1, S.2.2.1, v, S.2.2.2.2.1, S.2.2.2.2.2.1, S.2.2.2.2.2.2.1, S.2.2.2.2.2.2.2.1, S.2.2.2.2.2.2.2.2.1, S.2.2.2.2.2.2.2.2.2.1, S.2.2.2.2.2.2.2.2.2.2)
def Wd.w_inp (S : Wd) (v : Tx) : Wd := (S.1, S.2.1, S.2.2.1, S.2.2.2.1, v, S.2.2.2.2.2.1, S.2.2.2.2.2.2.1, S.2.2.2.2.2.2.2.1, S.2.2.2.2.2.2.2.2.1, S.2.2.2.2.2.2.2.2.2.1, S.2.2.2.2.2.2.2.2.2.2)
def Wd.w_ol (S : Wd) (v : Ol) : Wd := (S.1, S.2.1, S.2.2.1, S.2.2.2.1, S.2.2.2.2.1, v, S.2.2.2.2.2.2.1, S.2.2.2.2.2.2.2.1, S.2.2.2.2.2.2.2.2.1, S.2.2.2.2.2.2.2.2.2.1, S.2.2.2.2.2.2.2.2.2.2)
def Wd.w_fps (S : Wd) (v : (Nat → Option Nat)) : Wd := (S.1, S.2.1, S.2.2.1, S.2.2.2.1, S.2.2.2.2.1, S.2.2.2.2.2.1, v, S.2.2.2.2.2.2.2.1, S.2.2.2.2.2.2.2.2.1, S.2.2.2.2.2.2.2.2.2.1, S.2.2.2.2.2.2.2.2.2.2)
def Wd.w_row (S : Wd) (v : (Nat → Int32)) : Wd := (S.1, S.2.1, S.2.2.1, S.2.2.2.1, S.2.2.2.2.1, S.2.2.2.2.2.1, S.2.2.2.2.2.2.1, v, S.2.2.2.2.2.2.2.2.1, S.2.2.2.2.2.2.2.2.2.1, S.2.2.2.2.2.2.2.2.2.2)
def Wd.w_dyn (S : Wd) (v : List Dy) : Wd := (S.1, S.2.1, S.2.2.1, S.2.2.2.1, S.2.2.2.2.1, S.2.2.2.2.2.1, S.2.2.2.2.2.2.1, S.2.2.2.2.2.2.2.1, v, S.2.2.2.2.2.2.2.2.2.1, S.2.2.2.2.2.2.2.2.2.2)
def Wd.w_kc (S : Wd) (v : Nat) : Wd := (S.1, S.2.1, S.2.2.1, S.2.2.2.1, S.2.2.2.2.1, S.2.2.2.2.2.1, S.2.2.2.2.2.2.1, S.2.2.2.2.2.2.2.1, S.2.2.2.2.2.2.2.2.1, v, S.2.2.2.2.2.2.2.2.2.2)
def Wd.w_kn (S : Wd) (v : Nat) : Wd := (S.1, S.2.1, S.2.2.1, S.2.2.2.1, S.2.2.2.2.1, S.2.2.2.2.2.1, S.2.2.2.2.2.2.1, S.2.2.2.2.2.2.2.1, S.2.2.2.2.2.2.2.2.1, S.2.2.2.2.2.2.2.2.2.1, v)
def mk (W : Wd) : AHp := PPt.cells 0 W.pp ++ (Bd.cells 1 W.board ++ (Bd.cells 7 W.saved ++ (Hs.cells 13 W.hist ++ (Tx.cells 15 W.inp ++ (Ol.cells 23 W.ol ++ (Qr.cells 6 W.fps ++ (Ar.cells 2048 W.row ++ (dynCells 29 W.dyn))))))))
def Wd.top (W : Wd) : Nat := 29 + dtot W.dyn
def Wd.at (W : Wd) (a : Nat) : Option Dy := if 29 ≤ a ∧ a < 900000 then dlk W.dyn (a - 29) else none
def Wd.bd (W : Wd) (a : Nat) : Option Bd := match W.at a with
  | some (.inl B) => some B
  | _ => none
def Wd.fp (W : Wd) (a : Nat) : Option FP := match W.at a with
  | some (.inr (.inl P)) => some P
  | _ => none
def Wd.cl (W : Wd) (a : Nat) : Option AC := match W.at a with
  | some (.inr (.inr c)) => some c
  | _ => none
def Wd.sbd (W : Wd) (a : Nat) (B : Bd) : Wd := W.w_dyn (dset W.dyn (a - 29) (.inl B))
def Wd.sfp (W : Wd) (a : Nat) (P : FP) : Wd := W.w_dyn (dset W.dyn (a - 29) (.inr (.inl P)))
def Wd.scl (W : Wd) (a : Nat) (c : AC) : Wd := W.w_dyn (dset W.dyn (a - 29) (.inr (.inr c)))
def Wd.thr (W : Wd) : Wd := (W.w_kc (W.kc + 1)).w_kn (W.kn + 6)
def Bd.zero : Bd := (0, 0, 0, 0, fun _ => 0, fun _ => 0, fun _ => 0, fun _ => 0, fun _ => 0)
def FP.zero (t : Int32) : FP := (t, 0, 0, 0, 0, 0, 0, fun _ => 0, fun _ => 0, fun _ => 0, fun _ => 0, fun _ => 0)
def Wd.pushB (W : Wd) : Wd := ((W.w_dyn (W.dyn ++ [.inl Bd.zero])).w_kc (W.kc + 1 + 5)).w_kn (W.kn + 9 + 120)
def Wd.pushF (W : Wd) (t : Int32) : Wd := ((W.w_dyn (W.dyn ++ [.inr (.inl (FP.zero t))])).w_kc (W.kc + 1 + 5)).w_kn (W.kn + 12 + 1142)
theorem rg_mid {P C Q : List AC} {b N : Nat} (hb : P.length = b) (hN : C.length = N) (hs : b + N ≤ am_SB) : Rg (P ++ (C ++ Q)) b C := by
  subst hb hN
  refine ⟨hs, by simp only [List.length_append]; omega, fun i hi => ?_⟩
  rw [List.getElem?_append_right (by omega), Nat.add_sub_cancel_left, List.getElem?_append_left hi]
theorem set_mid {P C C2 Q : List AC} {b i : Nat} {c : AC} (hb : P.length = b) (hi : i < C.length) (h : C.set i c = C2) : (P ++ (C ++ Q)).set (b + i) c = P ++ (C2 ++ Q) := by
  subst hb h
  rw [List.set_append_right _ _ (by omega), Nat.add_sub_cancel_left, List.set_append_left _ _ hi]
theorem put_mid {P C C2 Q : List AC} {b : Nat} (hb : P.length = b) (hl : C2.length = C.length) : hput (P ++ (C ++ Q)) b C2 = P ++ (C2 ++ Q) := by
  subst hb
  unfold hput
  rw [List.take_left, hl, show P.length + C.length = (P ++ C).length by rw [List.length_append], ← List.append_assoc P C Q, List.drop_left]
/-- a contract over the world -/
def RnW (scr : ASc) (D mi : Nat) (vs : List Value) (W : Wd) (r : Option Value ⊕ Nat) (W2 : Wd) : Prop := ∃ dk dn, W2.kc = W.kc + dk ∧ W2.kn = W.kn + dn ∧ Rn scr D mi vs (mk W) (r, mk W2, dk, dn)
theorem RnW.of0 {scr : ASc} {D mi : Nat} {vs : List Value} {W W2 : Wd} {r : Option Value ⊕ Nat} (h : Rn scr D mi vs (mk W) (r, mk W2, 0, 0)) (hk : W2.kc = W.kc ∧ W2.kn = W.kn) : RnW scr D mi vs W r W2 := ⟨0, 0, hk.1, hk.2, h⟩
def pre_pp (W : Wd) : List AC := []
def post_pp (W : Wd) : List AC := Bd.cells 1 W.board ++ (Bd.cells 7 W.saved ++ (Hs.cells 13 W.hist ++ (Tx.cells 15 W.inp ++ (Ol.cells 23 W.ol ++ (Qr.cells 6 W.fps ++ (Ar.cells 2048 W.row ++ (dynCells 29 W.dyn)))))))
theorem mk_pp (W : Wd) : mk W = pre_pp W ++ (PPt.cells 0 W.pp ++ post_pp W) := by
  unfold mk pre_pp post_pp
  simp only [List.append_assoc, List.nil_append]
theorem mkw_pp (W : Wd) (v : PPt) : mk (W.w_pp v) = pre_pp W ++ (PPt.cells 0 v ++ post_pp W) := mk_pp (W.w_pp v)
theorem rg_pp {W : Wd} : Rg (mk W) 0 (PPt.cells 0 W.pp) := by
  rw [mk_pp]
  exact rg_mid (N := 1) rfl rfl (by decide)
theorem ws_pp {W W2 : Wd} {v : PPt} {i : Nat} {c : AC} (h : (PPt.cells 0 W.pp).set i c = PPt.cells 0 v) (h2 : some (W.w_pp v) = some W2) (hi : i < 1) : (mk W).set (0 + i) c = mk W2 := by
  cases h2
  rw [mkw_pp, mk_pp]
  exact set_mid rfl hi h
theorem kk_pp {W W2 : Wd} {v : PPt} (h2 : some (W.w_pp v) = some W2) : W2.kc = W.kc ∧ W2.kn = W.kn := by
  cases h2
  exact ⟨rfl, rfl⟩
def pre_board (W : Wd) : List AC := PPt.cells 0 W.pp
def post_board (W : Wd) : List AC := Bd.cells 7 W.saved ++ (Hs.cells 13 W.hist ++ (Tx.cells 15 W.inp ++ (Ol.cells 23 W.ol ++ (Qr.cells 6 W.fps ++ (Ar.cells 2048 W.row ++ (dynCells 29 W.dyn))))))
theorem mk_board (W : Wd) : mk W = pre_board W ++ (Bd.cells 1 W.board ++ post_board W) := by
  unfold mk pre_board post_board
  simp only [List.append_assoc, List.nil_append]
theorem mkw_board (W : Wd) (v : Bd) : mk (W.w_board v) = pre_board W ++ (Bd.cells 1 v ++ post_board W) := mk_board (W.w_board v)
theorem rg_board {W : Wd} : Rg (mk W) 1 (Bd.cells 1 W.board) := by
  rw [mk_board]
  exact rg_mid (N := 6) rfl rfl (by decide)
theorem ws_board {W W2 : Wd} {v : Bd} {i : Nat} {c : AC} (h : (Bd.cells 1 W.board).set i c = Bd.cells 1 v) (h2 : some (W.w_board v) = some W2) (hi : i < 6) : (mk W).set (1 + i) c = mk W2 := by
  cases h2
  rw [mkw_board, mk_board]
  exact set_mid rfl hi h
theorem kk_board {W W2 : Wd} {v : Bd} (h2 : some (W.w_board v) = some W2) : W2.kc = W.kc ∧ W2.kn = W.kn := by
  cases h2
  exact ⟨rfl, rfl⟩
theorem wc_board {W W2 : Wd} {v : Bd} {scr : ASc} {D mi : Nat} {as : List Value} {r : Option Value ⊕ Nat} (hr : ∀ H : AHp, 1 + 6 ≤ am_SB → 1 + 6 ≤ H.length → H = mk W → Rn scr D mi as (hput H 1 (Bd.cells 1 W.board)) (r, hput H 1 (Bd.cells 1 v), 0, 0)) (h2 : some (W.w_board v) = some W2) : RnW scr D mi as W r W2 := by
  refine RnW.of0 ?_ (kk_board h2)
  cases h2
  have q := hr (mk W) (by decide) rg_board.2.1 rfl
  rw [rg_board.back] at q
  rw [mkw_board]
  rw [show hput (mk W) 1 (Bd.cells 1 v) = pre_board W ++ (Bd.cells 1 v ++ post_board W) by rw [mk_board]; exact put_mid rfl rfl] at q
  exact q
def pre_saved (W : Wd) : List AC := PPt.cells 0 W.pp ++ (Bd.cells 1 W.board)
def post_saved (W : Wd) : List AC := Hs.cells 13 W.hist ++ (Tx.cells 15 W.inp ++ (Ol.cells 23 W.ol ++ (Qr.cells 6 W.fps ++ (Ar.cells 2048 W.row ++ (dynCells 29 W.dyn)))))
theorem mk_saved (W : Wd) : mk W = pre_saved W ++ (Bd.cells 7 W.saved ++ post_saved W) := by
  unfold mk pre_saved post_saved
  simp only [List.append_assoc, List.nil_append]
theorem mkw_saved (W : Wd) (v : Bd) : mk (W.w_saved v) = pre_saved W ++ (Bd.cells 7 v ++ post_saved W) := mk_saved (W.w_saved v)
theorem rg_saved {W : Wd} : Rg (mk W) 7 (Bd.cells 7 W.saved) := by
  rw [mk_saved]
  exact rg_mid (N := 6) rfl rfl (by decide)
theorem ws_saved {W W2 : Wd} {v : Bd} {i : Nat} {c : AC} (h : (Bd.cells 7 W.saved).set i c = Bd.cells 7 v) (h2 : some (W.w_saved v) = some W2) (hi : i < 6) : (mk W).set (7 + i) c = mk W2 := by
  cases h2
  rw [mkw_saved, mk_saved]
  exact set_mid rfl hi h
theorem kk_saved {W W2 : Wd} {v : Bd} (h2 : some (W.w_saved v) = some W2) : W2.kc = W.kc ∧ W2.kn = W.kn := by
  cases h2
  exact ⟨rfl, rfl⟩
theorem wc_saved {W W2 : Wd} {v : Bd} {scr : ASc} {D mi : Nat} {as : List Value} {r : Option Value ⊕ Nat} (hr : ∀ H : AHp, 7 + 6 ≤ am_SB → 7 + 6 ≤ H.length → H = mk W → Rn scr D mi as (hput H 7 (Bd.cells 7 W.saved)) (r, hput H 7 (Bd.cells 7 v), 0, 0)) (h2 : some (W.w_saved v) = some W2) : RnW scr D mi as W r W2 := by
  refine RnW.of0 ?_ (kk_saved h2)
  cases h2
  have q := hr (mk W) (by decide) rg_saved.2.1 rfl
  rw [rg_saved.back] at q
  rw [mkw_saved]
  rw [show hput (mk W) 7 (Bd.cells 7 v) = pre_saved W ++ (Bd.cells 7 v ++ post_saved W) by rw [mk_saved]; exact put_mid rfl rfl] at q
  exact q
def pre_hist (W : Wd) : List AC := PPt.cells 0 W.pp ++ (Bd.cells 1 W.board ++ (Bd.cells 7 W.saved))
def post_hist (W : Wd) : List AC := Tx.cells 15 W.inp ++ (Ol.cells 23 W.ol ++ (Qr.cells 6 W.fps ++ (Ar.cells 2048 W.row ++ (dynCells 29 W.dyn))))
theorem mk_hist (W : Wd) : mk W = pre_hist W ++ (Hs.cells 13 W.hist ++ post_hist W) := by
  unfold mk pre_hist post_hist
  simp only [List.append_assoc, List.nil_append]
theorem mkw_hist (W : Wd) (v : Hs) : mk (W.w_hist v) = pre_hist W ++ (Hs.cells 13 v ++ post_hist W) := mk_hist (W.w_hist v)
theorem rg_hist {W : Wd} : Rg (mk W) 13 (Hs.cells 13 W.hist) := by
  rw [mk_hist]
  exact rg_mid (N := 2) rfl rfl (by decide)
theorem ws_hist {W W2 : Wd} {v : Hs} {i : Nat} {c : AC} (h : (Hs.cells 13 W.hist).set i c = Hs.cells 13 v) (h2 : some (W.w_hist v) = some W2) (hi : i < 2) : (mk W).set (13 + i) c = mk W2 := by
  cases h2
  rw [mkw_hist, mk_hist]
  exact set_mid rfl hi h
theorem kk_hist {W W2 : Wd} {v : Hs} (h2 : some (W.w_hist v) = some W2) : W2.kc = W.kc ∧ W2.kn = W.kn := by
  cases h2
  exact ⟨rfl, rfl⟩
def pre_inp (W : Wd) : List AC := PPt.cells 0 W.pp ++ (Bd.cells 1 W.board ++ (Bd.cells 7 W.saved ++ (Hs.cells 13 W.hist)))
def post_inp (W : Wd) : List AC := Ol.cells 23 W.ol ++ (Qr.cells 6 W.fps ++ (Ar.cells 2048 W.row ++ (dynCells 29 W.dyn)))
theorem mk_inp (W : Wd) : mk W = pre_inp W ++ (Tx.cells 15 W.inp ++ post_inp W) := by
  unfold mk pre_inp post_inp
  simp only [List.append_assoc, List.nil_append]
theorem mkw_inp (W : Wd) (v : Tx) : mk (W.w_inp v) = pre_inp W ++ (Tx.cells 15 v ++ post_inp W) := mk_inp (W.w_inp v)
theorem rg_inp {W : Wd} : Rg (mk W) 15 (Tx.cells 15 W.inp) := by
  rw [mk_inp]
  exact rg_mid (N := 8) rfl rfl (by decide)
theorem ws_inp {W W2 : Wd} {v : Tx} {i : Nat} {c : AC} (h : (Tx.cells 15 W.inp).set i c = Tx.cells 15 v) (h2 : some (W.w_inp v) = some W2) (hi : i < 8) : (mk W).set (15 + i) c = mk W2 := by
  cases h2
  rw [mkw_inp, mk_inp]
  exact set_mid rfl hi h
theorem kk_inp {W W2 : Wd} {v : Tx} (h2 : some (W.w_inp v) = some W2) : W2.kc = W.kc ∧ W2.kn = W.kn := by
  cases h2
  exact ⟨rfl, rfl⟩
theorem wc_inp {W W2 : Wd} {v : Tx} {scr : ASc} {D mi : Nat} {as : List Value} {r : Option Value ⊕ Nat} (hr : ∀ H : AHp, 15 + 8 ≤ am_SB → 15 + 8 ≤ H.length → H = mk W → Rn scr D mi as (hput H 15 (Tx.cells 15 W.inp)) (r, hput H 15 (Tx.cells 15 v), 0, 0)) (h2 : some (W.w_inp v) = some W2) : RnW scr D mi as W r W2 := by
  refine RnW.of0 ?_ (kk_inp h2)
  cases h2
  have q := hr (mk W) (by decide) rg_inp.2.1 rfl
  rw [rg_inp.back] at q
  rw [mkw_inp]
  rw [show hput (mk W) 15 (Tx.cells 15 v) = pre_inp W ++ (Tx.cells 15 v ++ post_inp W) by rw [mk_inp]; exact put_mid rfl rfl] at q
  exact q
def pre_ol (W : Wd) : List AC := PPt.cells 0 W.pp ++ (Bd.cells 1 W.board ++ (Bd.cells 7 W.saved ++ (Hs.cells 13 W.hist ++ (Tx.cells 15 W.inp))))
def post_ol (W : Wd) : List AC := Qr.cells 6 W.fps ++ (Ar.cells 2048 W.row ++ (dynCells 29 W.dyn))
theorem mk_ol (W : Wd) : mk W = pre_ol W ++ (Ol.cells 23 W.ol ++ post_ol W) := by
  unfold mk pre_ol post_ol
  simp only [List.append_assoc, List.nil_append]
theorem mkw_ol (W : Wd) (v : Ol) : mk (W.w_ol v) = pre_ol W ++ (Ol.cells 23 v ++ post_ol W) := mk_ol (W.w_ol v)
theorem rg_ol {W : Wd} : Rg (mk W) 23 (Ol.cells 23 W.ol) := by
  rw [mk_ol]
  exact rg_mid (N := 4) rfl rfl (by decide)
theorem ws_ol {W W2 : Wd} {v : Ol} {i : Nat} {c : AC} (h : (Ol.cells 23 W.ol).set i c = Ol.cells 23 v) (h2 : some (W.w_ol v) = some W2) (hi : i < 4) : (mk W).set (23 + i) c = mk W2 := by
  cases h2
  rw [mkw_ol, mk_ol]
  exact set_mid rfl hi h
theorem kk_ol {W W2 : Wd} {v : Ol} (h2 : some (W.w_ol v) = some W2) : W2.kc = W.kc ∧ W2.kn = W.kn := by
  cases h2
  exact ⟨rfl, rfl⟩
theorem wc_ol {W W2 : Wd} {v : Ol} {scr : ASc} {D mi : Nat} {as : List Value} {r : Option Value ⊕ Nat} (hr : ∀ H : AHp, 23 + 4 ≤ am_SB → 23 + 4 ≤ H.length → H = mk W → Rn scr D mi as (hput H 23 (Ol.cells 23 W.ol)) (r, hput H 23 (Ol.cells 23 v), 0, 0)) (h2 : some (W.w_ol v) = some W2) : RnW scr D mi as W r W2 := by
  refine RnW.of0 ?_ (kk_ol h2)
  cases h2
  have q := hr (mk W) (by decide) rg_ol.2.1 rfl
  rw [rg_ol.back] at q
  rw [mkw_ol]
  rw [show hput (mk W) 23 (Ol.cells 23 v) = pre_ol W ++ (Ol.cells 23 v ++ post_ol W) by rw [mk_ol]; exact put_mid rfl rfl] at q
  exact q
def pre_fps (W : Wd) : List AC := PPt.cells 0 W.pp ++ (Bd.cells 1 W.board ++ (Bd.cells 7 W.saved ++ (Hs.cells 13 W.hist ++ (Tx.cells 15 W.inp ++ (Ol.cells 23 W.ol)))))
def post_fps (W : Wd) : List AC := Ar.cells 2048 W.row ++ (dynCells 29 W.dyn)
theorem mk_fps (W : Wd) : mk W = pre_fps W ++ (Qr.cells 6 W.fps ++ post_fps W) := by
  unfold mk pre_fps post_fps
  simp only [List.append_assoc, List.nil_append]
theorem mkw_fps (W : Wd) (v : (Nat → Option Nat)) : mk (W.w_fps v) = pre_fps W ++ (Qr.cells 6 v ++ post_fps W) := mk_fps (W.w_fps v)
theorem rg_fps {W : Wd} : Rg (mk W) 27 (Qr.cells 6 W.fps) := by
  rw [mk_fps]
  exact rg_mid (N := 1) rfl rfl (by decide)
theorem ws_fps {W W2 : Wd} {v : (Nat → Option Nat)} {i : Nat} {c : AC} (h : (Qr.cells 6 W.fps).set i c = Qr.cells 6 v) (h2 : some (W.w_fps v) = some W2) (hi : i < 1) : (mk W).set (27 + i) c = mk W2 := by
  cases h2
  rw [mkw_fps, mk_fps]
  exact set_mid rfl hi h
theorem kk_fps {W W2 : Wd} {v : (Nat → Option Nat)} (h2 : some (W.w_fps v) = some W2) : W2.kc = W.kc ∧ W2.kn = W.kn := by
  cases h2
  exact ⟨rfl, rfl⟩
def pre_row (W : Wd) : List AC := PPt.cells 0 W.pp ++ (Bd.cells 1 W.board ++ (Bd.cells 7 W.saved ++ (Hs.cells 13 W.hist ++ (Tx.cells 15 W.inp ++ (Ol.cells 23 W.ol ++ (Qr.cells 6 W.fps))))))
def post_row (W : Wd) : List AC := dynCells 29 W.dyn
theorem mk_row (W : Wd) : mk W = pre_row W ++ (Ar.cells 2048 W.row ++ post_row W) := by
  unfold mk pre_row post_row
  simp only [List.append_assoc, List.nil_append]
theorem mkw_row (W : Wd) (v : (Nat → Int32)) : mk (W.w_row v) = pre_row W ++ (Ar.cells 2048 v ++ post_row W) := mk_row (W.w_row v)
theorem rg_row {W : Wd} : Rg (mk W) 28 (Ar.cells 2048 W.row) := by
  rw [mk_row]
  exact rg_mid (N := 1) rfl rfl (by decide)
theorem ws_row {W W2 : Wd} {v : (Nat → Int32)} {i : Nat} {c : AC} (h : (Ar.cells 2048 W.row).set i c = Ar.cells 2048 v) (h2 : some (W.w_row v) = some W2) (hi : i < 1) : (mk W).set (28 + i) c = mk W2 := by
  cases h2
  rw [mkw_row, mk_row]
  exact set_mid rfl hi h
theorem kk_row {W W2 : Wd} {v : (Nat → Int32)} (h2 : some (W.w_row v) = some W2) : W2.kc = W.kc ∧ W2.kn = W.kn := by
  cases h2
  exact ⟨rfl, rfl⟩
theorem wc_row {W W2 : Wd} {v : (Nat → Int32)} {scr : ASc} {D mi : Nat} {as : List Value} {r : Option Value ⊕ Nat} (hr : ∀ H : AHp, 28 + 1 ≤ am_SB → 28 + 1 ≤ H.length → H = mk W → Rn scr D mi as (hput H 28 (Ar.cells 2048 W.row)) (r, hput H 28 (Ar.cells 2048 v), 0, 0)) (h2 : some (W.w_row v) = some W2) : RnW scr D mi as W r W2 := by
  refine RnW.of0 ?_ (kk_row h2)
  cases h2
  have q := hr (mk W) (by decide) rg_row.2.1 rfl
  rw [rg_row.back] at q
  rw [mkw_row]
  rw [show hput (mk W) 28 (Ar.cells 2048 v) = pre_row W ++ (Ar.cells 2048 v ++ post_row W) by rw [mk_row]; exact put_mid rfl rfl] at q
  exact q
theorem mk_len (W : Wd) : (mk W).length = W.top := by
  rw [mk_row]
  rw [List.length_append, List.length_append]
  show 28 + (1 + (dynCells 29 W.dyn).length) = 29 + dtot W.dyn
  rw [dynCells_len]; omega
def fixd (W : Wd) : List AC := PPt.cells 0 W.pp ++ (Bd.cells 1 W.board ++ (Bd.cells 7 W.saved ++ (Hs.cells 13 W.hist ++ (Tx.cells 15 W.inp ++ (Ol.cells 23 W.ol ++ (Qr.cells 6 W.fps ++ (Ar.cells 2048 W.row)))))))
theorem mk_dyn (W : Wd) : mk W = fixd W ++ dynCells 29 W.dyn := by
  unfold mk fixd
  simp only [List.append_assoc]
theorem mkw_dyn (W : Wd) (l : List Dy) : mk (W.w_dyn l) = fixd W ++ dynCells 29 l := mk_dyn (W.w_dyn l)
theorem at_split {W : Wd} {a : Nat} {x : Dy} (h : W.at a = some x) : ∃ p q, mk W = p ++ (dcl a x ++ q) ∧ p.length = a ∧ a < 900000 ∧ 29 ≤ a ∧ ∀ y, dsz y = dsz x → mk (W.w_dyn (dset W.dyn (a - 29) y)) = p ++ (dcl a y ++ q) := by
  unfold Wd.at at h
  split at h
  · next h1 =>
    obtain ⟨p, q, e1, e2, e3⟩ := dlk_split _ _ _ h
    have l1 : (fixd W).length = 29 := rfl
    refine ⟨fixd W ++ dynCells 29 p, dynCells (a + dsz x) q, ?_, ?_, h1.2, h1.1, fun y hy => ?_⟩
    · rw [mk_dyn, e1, dynCells_app, e2, show 29 + (a - 29) = a by omega, List.append_assoc]
      rfl
    · rw [List.length_append, l1, dynCells_len, e2]; omega
    · rw [mkw_dyn, e3, dynCells_app, e2, show 29 + (a - 29) = a by omega, List.append_assoc, ← hy]
      rfl
  · cases h
theorem at_bd {W : Wd} {a : Nat} {B : Bd} (h : W.bd a = some B) : W.at a = some (.inl B) := by
  unfold Wd.bd at h
  split at h
  · next h1 => cases h; exact h1
  · cases h
theorem at_fp {W : Wd} {a : Nat} {B : FP} (h : W.fp a = some B) : W.at a = some (.inr (.inl B)) := by
  unfold Wd.fp at h
  split at h
  · next h1 => cases h; exact h1
  · cases h
theorem at_cl {W : Wd} {a : Nat} {B : AC} (h : W.cl a = some B) : W.at a = some (.inr (.inr B)) := by
  unfold Wd.cl at h
  split at h
  · next h1 => cases h; exact h1
  · cases h
theorem bd_split {W : Wd} {a : Nat} {B : Bd} (h : W.bd a = some B) : ∃ p q, mk W = p ++ (Bd.cells a B ++ q) ∧ p.length = a ∧ a < 900000 ∧ 29 ≤ a ∧ ∀ B2, mk (W.sbd a B2) = p ++ (Bd.cells a B2 ++ q) := by
  obtain ⟨p, q, h1, h2, h3, h4, h5⟩ := at_split (at_bd h)
  exact ⟨p, q, h1, h2, h3, h4, fun B2 => h5 (.inl B2) rfl⟩
theorem rg_bd {W : Wd} {a : Nat} {B : Bd} (h : W.bd a = some B) : Rg (mk W) a (Bd.cells a B) := by
  obtain ⟨p, q, h1, h2, h3, -, -⟩ := bd_split h
  rw [h1]
  exact rg_mid (N := 6) h2 rfl (by have : am_SB = 1000000 := rfl; omega)
theorem ge_bd {W : Wd} {a : Nat} {B : Bd} (h : W.bd a = some B) : 29 ≤ a := by
  obtain ⟨p, q, h1, h2, h3, h4, -⟩ := bd_split h
  exact h4
theorem ws_bd {W W2 : Wd} {a : Nat} {B v : Bd} {i : Nat} {c : AC} (hB : W.bd a = some B) (h : (Bd.cells a B).set i c = Bd.cells a v) (h2 : some (W.sbd a v) = some W2) (hi : i < 6) : (mk W).set (a + i) c = mk W2 := by
  cases h2
  obtain ⟨p, q, h1, h2, h3, -, h4⟩ := bd_split hB
  rw [h1, h4]
  exact set_mid h2 hi h
theorem kk_bd {W W2 : Wd} {a : Nat} {v : Bd} (h2 : some (W.sbd a v) = some W2) : W2.kc = W.kc ∧ W2.kn = W.kn := by
  cases h2
  exact ⟨rfl, rfl⟩
theorem wc_bd {W W2 : Wd} {a : Nat} {B v : Bd} {scr : ASc} {D mi : Nat} {as : List Value} {r : Option Value ⊕ Nat} (hB : W.bd a = some B) (hr : ∀ H : AHp, a + 6 ≤ am_SB → a + 6 ≤ H.length → (H = mk W) → Rn scr D mi as (hput H a (Bd.cells a B)) (r, hput H a (Bd.cells a v), 0, 0)) (h2 : some (W.sbd a v) = some W2) : RnW scr D mi as W r W2 := by
  refine RnW.of0 ?_ (kk_bd h2)
  cases h2
  have q := hr (mk W) (rg_bd hB).1 (rg_bd hB).2.1 rfl
  rw [(rg_bd hB).back] at q
  obtain ⟨p, q1, h1, h2, h3, -, h4⟩ := bd_split hB
  rw [h4]
  rw [show hput (mk W) a (Bd.cells a v) = p ++ (Bd.cells a v ++ q1) by rw [h1]; exact put_mid h2 rfl] at q
  exact q
theorem fp_split {W : Wd} {a : Nat} {B : FP} (h : W.fp a = some B) : ∃ p q, mk W = p ++ (FP.cells a B ++ q) ∧ p.length = a ∧ a < 900000 ∧ 29 ≤ a ∧ ∀ B2, mk (W.sfp a B2) = p ++ (FP.cells a B2 ++ q) := by
  obtain ⟨p, q, h1, h2, h3, h4, h5⟩ := at_split (at_fp h)
  exact ⟨p, q, h1, h2, h3, h4, fun B2 => h5 (.inr (.inl B2)) rfl⟩
theorem rg_fp {W : Wd} {a : Nat} {B : FP} (h : W.fp a = some B) : Rg (mk W) a (FP.cells a B) := by
  obtain ⟨p, q, h1, h2, h3, -, -⟩ := fp_split h
  rw [h1]
  exact rg_mid (N := 6) h2 rfl (by have : am_SB = 1000000 := rfl; omega)
theorem ge_fp {W : Wd} {a : Nat} {B : FP} (h : W.fp a = some B) : 29 ≤ a := by
  obtain ⟨p, q, h1, h2, h3, h4, -⟩ := fp_split h
  exact h4
theorem ws_fp {W W2 : Wd} {a : Nat} {B v : FP} {i : Nat} {c : AC} (hB : W.fp a = some B) (h : (FP.cells a B).set i c = FP.cells a v) (h2 : some (W.sfp a v) = some W2) (hi : i < 6) : (mk W).set (a + i) c = mk W2 := by
  cases h2
  obtain ⟨p, q, h1, h2, h3, -, h4⟩ := fp_split hB
  rw [h1, h4]
  exact set_mid h2 hi h
theorem kk_fp {W W2 : Wd} {a : Nat} {v : FP} (h2 : some (W.sfp a v) = some W2) : W2.kc = W.kc ∧ W2.kn = W.kn := by
  cases h2
  exact ⟨rfl, rfl⟩
theorem wc_fp {W W2 : Wd} {a : Nat} {B v : FP} {scr : ASc} {D mi : Nat} {as : List Value} {r : Option Value ⊕ Nat} (hB : W.fp a = some B) (hr : ∀ H : AHp, a + 6 ≤ am_SB → a + 6 ≤ H.length → (H = mk W) → Rn scr D mi as (hput H a (FP.cells a B)) (r, hput H a (FP.cells a v), 0, 0)) (h2 : some (W.sfp a v) = some W2) : RnW scr D mi as W r W2 := by
  refine RnW.of0 ?_ (kk_fp h2)
  cases h2
  have q := hr (mk W) (rg_fp hB).1 (rg_fp hB).2.1 rfl
  rw [(rg_fp hB).back] at q
  obtain ⟨p, q1, h1, h2, h3, -, h4⟩ := fp_split hB
  rw [h4]
  rw [show hput (mk W) a (FP.cells a v) = p ++ (FP.cells a v ++ q1) by rw [h1]; exact put_mid h2 rfl] at q
  exact q
theorem am_exec_sh {cf : Nat → List Value → AHp → Option ARe} {M : AMe} {d : Nat} {scr : ASc} {ro : Option Value ⊕ Nat} {ho : AHp} {ko no : Nat} : ∀ (f pc : Nat) (ls : ALs) (st : List Value) (h : AHp) (k n : Nat), am_exec cf M d scr f (pc, ls, st, h, k, n) = some (ro, ho, ko, no) → ∃ dk dn, ko = k + dk ∧ no = n + dn ∧ ∀ k2 n2, am_exec cf M d scr f (pc, ls, st, h, k2, n2) = some (ro, ho, k2 + dk, n2 + dn)
  | 0, _, _, _, _, _, _, hr => by cases hr
  | f + 1, pc, ls, st, h, k, n, hr => by
    obtain ⟨E, hE, ⟨hk, S, hS, h1⟩ | ⟨hk, v, hv, h1⟩ | ⟨hk, as, rest, Y, res1, ha, hp, hrv, hc, hsub⟩ | ⟨hk, h7, h5, hs, hh, h1⟩⟩ := am_exec_inv hr
    · obtain ⟨dk, dn, e1, e2, e3⟩ := am_exec_sh f _ _ _ _ _ _ h1
      refine ⟨S.2.2.2.2.1 + dk, S.2.2.2.2.2 + dn, by omega, by omega, fun k2 n2 => ?_⟩
      rw [am_exec_step hE hk hS, e3, Nat.add_assoc, Nat.add_assoc]
    · cases h1
      refine ⟨0, 0, rfl, rfl, fun k2 n2 => ?_⟩
      rw [am_exec, hE]
      simp only [hk, hv]
      rfl
    · obtain ⟨ro1, hr1, kr, nr⟩ := res1
      rcases hsub with ⟨v, hv, h1⟩ | ⟨X, hX, hhs, h1⟩ | ⟨X, hp2, pc2, ls2, hX, hhd, hl2, h1⟩
      · dsimp only at hv h1
        subst hv
        obtain ⟨dk, dn, e1, e2, e3⟩ := am_exec_sh f _ _ _ _ _ _ h1
        refine ⟨kr + dk, nr + dn, by omega, by omega, fun k2 n2 => ?_⟩
        rw [am_exec, hE]
        simp only [hk, ha, hp, hrv, if_true, hc]
        rw [e3, Nat.add_assoc, Nat.add_assoc]
      · dsimp only at hX h1
        subst hX
        cases h1
        refine ⟨kr, nr, rfl, rfl, fun k2 n2 => ?_⟩
        rw [am_exec, hE]
        simp only [hk, ha, hp, hrv, if_true, hc, hhs]
      · dsimp only at hX h1
        subst hX
        obtain ⟨dk, dn, e1, e2, e3⟩ := am_exec_sh f _ _ _ _ _ _ h1
        refine ⟨kr + dk, nr + dn, by omega, by omega, fun k2 n2 => ?_⟩
        rw [am_exec, hE]
        simp only [hk, ha, hp, hrv, if_true, hc]
        cases hhs : M.2.2.2.2.2.1 with
        | nil => rw [hhs] at hhd; cases hhd
        | cons q l =>
          rw [hhs] at hhd
          simp only [hhd, hl2]
          rw [e3, Nat.add_assoc, Nat.add_assoc]
    · cases h1
      refine ⟨1, 6, rfl, rfl, fun k2 n2 => ?_⟩
      rw [am_exec, hE]
      simp only [hk]
      rw [if_pos ⟨h7, h5, hs, hh⟩]
theorem x_methW {scr : ASc} {d mi : Nat} {M : AMe} {vs : List Value} {W W2 : Wd} {r : Option Value ⊕ Nat} (hM : am_prog mi = some M) (hl : (am_slots vs).length ≤ M.2.2.1) (k : Ex (d + 1) M scr (0, am_entry M.2.2.1 vs, [], mk W, W.kc, W.kn) (r, mk W2, W2.kc, W2.kn)) : RnW scr (d + 2) mi vs W r W2 := by
  obtain ⟨f0, hf⟩ := k
  obtain ⟨dk, dn, e1, e2, -⟩ := am_exec_sh f0 _ _ _ _ _ _ (hf f0 f0 (Nat.le_refl _) (Nat.le_refl _))
  refine ⟨dk, dn, e1, e2, x_meth hM hl ⟨f0, fun f g h1 h2 => ?_⟩⟩
  obtain ⟨dk2, dn2, e3, e4, e5⟩ := am_exec_sh f _ _ _ _ _ _ (hf f g h1 h2)
  obtain rfl : dk2 = dk := by omega
  obtain rfl : dn2 = dn := by omega
  rw [e5, Nat.zero_add, Nat.zero_add]
/-- answers of methods that may throw -/
def xI : Int32 ⊕ Nat → Option Value ⊕ Nat
  | .inl v => .inl (some (.int v))
  | .inr X => .inr X
def xU : Unit ⊕ Nat → Option Value ⊕ Nat
  | .inl _ => .inl none
  | .inr X => .inr X
def xq {α β : Type} (r : α ⊕ Nat) (f : Nat → Option β) (g : α → Option β) : Option β := match r with
  | .inl v => g v
  | .inr X => f X
theorem xq_some {α β : Type} {r : α ⊕ Nat} {f : Nat → Option β} {g : α → Option β} {o : β} (h : xq r f g = some o) : (∃ X, r = .inr X ∧ f X = some o) ∨ (∃ v, r = .inl v ∧ g v = some o) := by
  cases r with
  | inl v => exact .inr ⟨v, rfl, h⟩
  | inr X => exact .inl ⟨X, rfl, h⟩
def oq {β : Type} (r : Option Nat) (f : Option β) (g : Nat → Option β) : Option β := match r with
  | none => f
  | some a => g a
theorem oq_some {β : Type} {r : Option Nat} {f : Option β} {g : Nat → Option β} {o : β} (h : oq r f g = some o) : (r = none ∧ f = some o) ∨ (∃ a, r = some a ∧ g a = some o) := by
  cases r with
  | none => exact .inl ⟨rfl, h⟩
  | some a => exact .inr ⟨a, rfl, h⟩
section WR
variable {d : Nat} {M : AMe} {scr : ASc} {res : ARe} {pc r1 r2 a b i j : Nat} {ls : ALs} {st : List Value} {h H : AHp} {W W2 : Wd} {c n : Nat} {x y : Int32}
theorem x_kk (hk : W2.kc = W.kc ∧ W2.kn = W.kn) (k : Ex d M scr (pc, ls, st, mk W2, W2.kc, W2.kn) res) : Ex d M scr (pc, ls, st, mk W2, W.kc, W.kn) res := by
  rw [← hk.1, ← hk.2]; exact k
theorem x_cW {d2 p mi np : Nat} {q : Instr} {Y : AMe} {as rest : List Value} {v : Option Value} (hr : RnW scr d2 mi as W (.inl v) W2) (hE : am_find M.2.2.2.2.2.2 pc = some (p, q, mi, np)) (hk : (am_kind q mi, am_nx q) = (2, 3)) (ha : am_args np st = some (as, rest)) (hp : am_prog mi = some Y) (hrv : am_recv q mi Y.1.cls as (mk W) = true) (hd : d2 ≤ d)
    (k : Ex d M scr (pc + 3, ls, v.toList ++ rest, mk W2, W2.kc, W2.kn) res) : Ex d M scr (pc, ls, st, mk W, W.kc, W.kn) res := by
  obtain ⟨dk, dn, e1, e2, e3⟩ := hr
  rw [e1, e2] at k
  have h1 : am_kind q mi = 2 := congrArg Prod.fst hk
  have h2 : am_nx q = 3 := congrArg Prod.snd hk
  refine x_call (E := (p, q, mi, np)) e3 hd hE h1 ha hp hrv ?_
  show Ex d M scr (pc + am_nx q, _) res
  rw [h2]
  exact k
theorem x_cI {d2 p mi np : Nat} {q : Instr} {Y : AMe} {as rest : List Value} {v : Option Value} (hr : RnW scr d2 mi as W (.inl v) W2) (hE : am_find M.2.2.2.2.2.2 pc = some (p, q, mi, np)) (hk : (am_kind q mi, am_nx q) = (2, 5)) (ha : am_args np st = some (as, rest)) (hp : am_prog mi = some Y) (hrv : am_recv q mi Y.1.cls as (mk W) = true) (hd : d2 ≤ d)
    (k : Ex d M scr (pc + 5, ls, v.toList ++ rest, mk W2, W2.kc, W2.kn) res) : Ex d M scr (pc, ls, st, mk W, W.kc, W.kn) res := by
  obtain ⟨dk, dn, e1, e2, e3⟩ := hr
  rw [e1, e2] at k
  have h1 : am_kind q mi = 2 := congrArg Prod.fst hk
  have h2 : am_nx q = 5 := congrArg Prod.snd hk
  refine x_call (E := (p, q, mi, np)) e3 hd hE h1 ha hp hrv ?_
  show Ex d M scr (pc + am_nx q, _) res
  rw [h2]
  exact k
theorem x_cX {d2 p mi np X : Nat} {q : Instr} {Y : AMe} {as rest : List Value} (hr : RnW scr d2 mi as W (.inr X) W2) (hE : am_find M.2.2.2.2.2.2 pc = some (p, q, mi, np)) (hk : am_kind q mi = 2) (ha : am_args np st = some (as, rest)) (hp : am_prog mi = some Y) (hrv : am_recv q mi Y.1.cls as (mk W) = true) (hd : d2 ≤ d) (hhs : M.2.2.2.2.2.1 = []) : Ex d M scr (pc, ls, st, mk W, W.kc, W.kn) (.inr X, mk W2, W2.kc, W2.kn) := by
  obtain ⟨dk, dn, e1, e2, e3⟩ := hr
  rw [e1, e2]
  exact x_callX e3 hd hE hk ha hp hrv hhs
theorem x_cH {d2 p mi np X hp2 pc2 : Nat} {ls2 : ALs} {q : Instr} {Y : AMe} {as rest : List Value} (hr : RnW scr d2 mi as W (.inr X) W2) (hE : am_find M.2.2.2.2.2.2 pc = some (p, q, mi, np)) (hk : am_kind q mi = 2) (ha : am_args np st = some (as, rest)) (hp : am_prog mi = some Y) (hrv : am_recv q mi Y.1.cls as (mk W) = true) (hd : d2 ≤ d) (hhd : am_hand M.2.2.2.2.2.1 pc X = some hp2) (hl2 : am_land M hp2 ls = some (pc2, ls2))
    (k : Ex d M scr (pc2, ls2, [], mk W2, W2.kc, W2.kn) res) : Ex d M scr (pc, ls, st, mk W, W.kc, W.kn) res := by
  obtain ⟨dk, dn, e1, e2, e3⟩ := hr
  rw [e1, e2] at k
  exact x_callH e3 hd hE hk ha hp hrv hhd hl2 k
theorem x_thr {p q : Nat} {X : Nat} (hE : am_find M.2.2.2.2.2.2 pc = some (p, .new q, 1000, X)) (h5 : X < 3) (h7 : 7 ≤ d) (hsum : (st.map Value.category).sum ≤ 8) (hhs : M.2.2.2.2.2.1 = []) : Ex d M scr (pc, ls, st, mk W, W.kc, W.kn) (.inr X, mk W.thr, W.thr.kc, W.thr.kn) :=
  x_throw hE rfl h7 h5 hsum hhs
theorem x_aaN {p m t : Nat} {f : Nat → Option Nat} (hE : am_find M.2.2.2.2.2.2 pc = some (p, .aaload, r1, r2)) (hp : p = pc) (ha : a < am_SB) (hc : h[a]? = some (.inl (t, m, .inr (.inr (.inr (.inr f)))))) (ht : 3 ≤ t ∧ t < 8) (hi : ix x m = some i) (hf : f i = none) (k : Ex d M scr (pc + 1, ls, .null :: st, h, c, n) res) : Ex d M scr (pc, ls, .int x :: .ref a :: st, h, c, n) res :=
  x_aald hE hp ha hc ht hi (by rw [hf]; exact k)
theorem x_aaS {p m t a2 : Nat} {f : Nat → Option Nat} (hE : am_find M.2.2.2.2.2.2 pc = some (p, .aaload, r1, r2)) (hp : p = pc) (ha : a < am_SB) (hc : h[a]? = some (.inl (t, m, .inr (.inr (.inr (.inr f)))))) (ht : 3 ≤ t ∧ t < 8) (hi : ix x m = some i) (hf : f i = some a2) (k : Ex d M scr (pc + 1, ls, .ref a2 :: st, h, c, n) res) : Ex d M scr (pc, ls, .int x :: .ref a :: st, h, c, n) res :=
  x_aald hE hp ha hc ht hi (by rw [hf]; exact k)
theorem x_nulN {p : Nat} {q} (hE : am_find M.2.2.2.2.2.2 pc = some (p, .ifnonnull q, r1, r2)) (hp : p = pc) (k : Ex d M scr (pc + 3, ls, st, h, c, n) res) : Ex d M scr (pc, ls, .null :: st, h, c, n) res := by
  subst hp
  exact x_s hE rfl (S := (p + 3, ls, st, h, 0, 0)) rfl k
theorem x_nulS {p : Nat} {q} (hE : am_find M.2.2.2.2.2.2 pc = some (p, .ifnonnull q, r1, r2)) (hp : p = pc) (ha : a < am_SB) (k : Ex d M scr (r1, ls, st, h, c, n) res) : Ex d M scr (pc, ls, .ref a :: st, h, c, n) res := by
  subst hp
  exact x_s hE rfl (S := (r1, ls, st, h, 0, 0)) (if_pos (show ¬ a = am_SB + 1 by omega)) k
theorem x_nnuN {p : Nat} {q} (hE : am_find M.2.2.2.2.2.2 pc = some (p, .ifnull q, r1, r2)) (hp : p = pc) (k : Ex d M scr (r1, ls, st, h, c, n) res) : Ex d M scr (pc, ls, .null :: st, h, c, n) res := by
  subst hp
  exact x_s hE rfl (S := (r1, ls, st, h, 0, 0)) rfl k
theorem x_nnuS {p : Nat} {q} (hE : am_find M.2.2.2.2.2.2 pc = some (p, .ifnull q, r1, r2)) (hp : p = pc) (ha : a < am_SB) (k : Ex d M scr (pc + 3, ls, st, h, c, n) res) : Ex d M scr (pc, ls, .ref a :: st, h, c, n) res := by
  subst hp
  exact x_s hE rfl (S := (p + 3, ls, st, h, 0, 0)) (if_pos (show ¬ a = am_SB + 1 by omega)) k
theorem x_ldnn {p : Nat} {i : Fin 4} (hE : am_find M.2.2.2.2.2.2 pc = some (p, .aload_n i, r1, r2)) (hp : p = pc) (hl : ls[(i : Nat)]? = some (some .null)) (k : Ex d M scr (pc + 1, ls, .null :: st, h, c, n) res) : Ex d M scr (pc, ls, st, h, c, n) res := by
  subst hp
  refine x_s hE rfl (S := (p + 1, ls, .null :: st, h, 0, 0)) ?_ k
  delta am_step am_lda
  dsimp only
  rw [hl]
/-- the script's own row -/
theorem x_ldsn {p : Nat} {i : Fin 4} (hE : am_find M.2.2.2.2.2.2 pc = some (p, .aload_n i, r1, r2)) (hp : p = pc) (hl : ls[(i : Nat)]? = some (some (.ref am_SB))) (k : Ex d M scr (pc + 1, ls, .ref am_SB :: st, h, c, n) res) : Ex d M scr (pc, ls, st, h, c, n) res := by
  subst hp
  refine x_s hE rfl (S := (p + 1, ls, .ref am_SB :: st, h, 0, 0)) ?_ k
  delta am_step am_lda
  dsimp only
  rw [hl]
theorem x_slen {p L : Nat} {xs : Nat → Int32} (hE : am_find M.2.2.2.2.2.2 pc = some (p, .arraylength, r1, r2)) (hp : p = pc) (k : Ex d M (some (L, xs)) (pc + 1, ls, .int (Int32.ofNat L) :: st, h, c, n) res) : Ex d M (some (L, xs)) (pc, ls, .ref am_SB :: st, h, c, n) res := by
  subst hp
  refine x_s hE rfl (S := (p + 1, ls, .int (Int32.ofNat L) :: st, h, 0, 0)) ?_ k
  delta am_step am_alen
  dsimp only
  rw [if_neg (Nat.lt_irrefl _), if_pos rfl]
theorem x_sld {p L : Nat} {xs : Nat → Int32} (hE : am_find M.2.2.2.2.2.2 pc = some (p, .iaload, r1, r2)) (hp : p = pc) (hi : ix x L = some i) (k : Ex d M (some (L, xs)) (pc + 1, ls, .int (xs i) :: st, h, c, n) res) : Ex d M (some (L, xs)) (pc, ls, .int x :: .ref am_SB :: st, h, c, n) res := by
  subst hp
  obtain ⟨h1, rfl⟩ := ix_some hi
  refine x_s hE rfl (S := (p + 1, ls, .int (xs x.toNatClampNeg) :: st, h, 0, 0)) ?_ k
  delta am_step am_iald
  dsimp only
  rw [if_neg (Nat.lt_irrefl _), if_pos rfl]
  exact if_pos h1
end WR
theorem lt_ne {a : Nat} (h : a < am_SB) : ¬ a = am_SB + 1 := by omega
section WR2
variable {d : Nat} {M : AMe} {scr : ASc} {res : ARe} {pc r1 r2 a b i j : Nat} {ls ls2 : ALs} {st : List Value} {h H : AHp} {W W2 : Wd} {c n : Nat} {x y : Int32}
theorem x_stan {p : Nat} {i : Fin 4} (hE : am_find M.2.2.2.2.2.2 pc = some (p, .astore_n i, r1, r2)) (hp : p = pc) (hl : (i : Nat) < ls.length) (ha : ¬ a = am_SB + 1) (hL : am_set1 ls i (.ref a) = ls2) (k : Ex d M scr (pc + 1, ls2, st, h, c, n) res) : Ex d M scr (pc, ls, .ref a :: st, h, c, n) res := by
  subst hp hL
  refine x_s hE rfl (S := (p + 1, am_set1 ls i (.ref a), st, h, 0, 0)) ?_ k
  delta am_step am_sta
  dsimp only
  rw [if_pos hl]
theorem x_newai {p m : Nat} {t : ArrayType} {cl : AC} (hE : am_find M.2.2.2.2.2.2 pc = some (p, .newarray t, r1, r2)) (hp : p = pc) (hl : h.length = a) (ha : a < am_SB) (hn : 0 ≤ x.toInt ∧ x.toInt < 1000000) (hm : x.toNatClampNeg = m) (ht : (t = .int ∧ cl = .inl (0, m, .inl (fun _ => 0))) ∨ (t = .boolean ∧ cl = .inl (1, m, .inl (fun _ => 0))) ∨ (t = .byte ∧ cl = .inl (2, m, .inl (fun _ => 0)))) (hH : h ++ [cl] = H) (k : Ex d M scr (pc + 2, ls, .ref a :: st, H, c + 1, n + m) res) : Ex d M scr (pc, ls, .int x :: st, h, c, n) res := by
  subst hp hl hm hH
  refine x_s hE rfl (S := (p + 2, ls, .ref h.length :: st, h ++ [cl], 1, x.toNatClampNeg)) ?_ k
  delta am_step am_newa
  dsimp only
  rw [if_pos ⟨ha, hn.1, hn.2⟩]
  rcases ht with ⟨rfl, rfl⟩ | ⟨rfl, rfl⟩ | ⟨rfl, rfl⟩ <;> rfl
theorem x_newq {p q m : Nat} {t : Nat} (hE : am_find M.2.2.2.2.2.2 pc = some (p, .anewarray q, t, r2)) (hp : p = pc) (hl : h.length = a) (ha : a < am_SB) (hn : 0 ≤ x.toInt ∧ x.toInt < 1000000) (hm : x.toNatClampNeg = m) (ht : t = 3 ∨ t = 4 ∨ t = 5) (hH : h ++ [.inl (t, m, .inr (.inr (.inr (.inr (fun _ => none)))))] = H) (k : Ex d M scr (pc + 3, ls, .ref a :: st, H, c + 1, n + m) res) : Ex d M scr (pc, ls, .int x :: st, h, c, n) res := by
  subst hp hl hm hH
  refine x_s hE rfl (S := (p + 3, ls, .ref h.length :: st, h ++ [.inl (t, x.toNatClampNeg, .inr (.inr (.inr (.inr (fun _ => none)))))], 1, x.toNatClampNeg)) ?_ k
  delta am_step am_newq
  dsimp only
  rw [if_pos ⟨ha, hn.1, hn.2, ht⟩]
theorem app_at {L : AHp} {e : AC} (ha : h.length = a) (he : L[i]? = some e) : (h ++ L)[a + i]? = some e := by
  subst ha
  rw [List.getElem?_append_right (by omega), Nat.add_sub_cancel_left, he]
theorem app_set {L L2 : AHp} {e : AC} (ha : h.length = a) (he : L.set i e = L2) : (h ++ L).set (a + i) e = h ++ L2 := by
  subst ha he
  rw [List.set_append_right _ _ (by omega), Nat.add_sub_cancel_left]
theorem app_len {L : AHp} (ha : h.length = a) : (h ++ L).length = a + L.length := by rw [List.length_append, ha]
theorem x_newW {p q : Nat} (hE : am_find M.2.2.2.2.2.2 pc = some (p, .new q, r1, r2)) (hp : p = pc) (hr : r1 < 12) (ht : W.top < 900000) (k : Ex d M scr (pc + 3, ls, .ref W.top :: st, mk W ++ [.inr (r1, am_fd r1)], W.kc + 1, W.kn + (am_fd r1).length) res) : Ex d M scr (pc, ls, st, mk W, W.kc, W.kn) res := by
  refine x_new hE hp ?_ rfl hr ?_
  · rw [mk_len]; unfold am_SB; omega
  · rw [mk_len]; exact k
end WR2
theorem am_ret_r {a : Nat} {C : String} (h : a < am_SB) : am_ret (some (.object C)) .areturn [.ref a] = some (some (.ref a)) := if_pos h
theorem cl_split {W : Wd} {a : Nat} {c : AC} (h : W.cl a = some c) : ∃ p q, mk W = p ++ (c :: q) ∧ p.length = a ∧ a < 900000 ∧ 29 ≤ a ∧ ∀ c2, mk (W.scl a c2) = p ++ (c2 :: q) := by
  obtain ⟨p, q, h1, h2, h3, h4, h5⟩ := at_split (at_cl h)
  exact ⟨p, q, h1, h2, h3, h4, fun c2 => h5 (.inr (.inr c2)) rfl⟩
theorem mk_cl {W : Wd} {a : Nat} {c : AC} (h : W.cl a = some c) : (mk W)[a]? = some c := by
  obtain ⟨p, q, h1, h2, -, -, -⟩ := cl_split h
  rw [h1, ← h2, List.getElem?_append_right (Nat.le_refl _), Nat.sub_self]
  rfl
theorem lt_cl {W : Wd} {a : Nat} {c : AC} (h : W.cl a = some c) : a < am_SB := by
  obtain ⟨p, q, h1, h2, h3, -, -⟩ := cl_split h
  have : am_SB = 1000000 := rfl
  omega
theorem ge_cl {W : Wd} {a : Nat} {c : AC} (h : W.cl a = some c) : 29 ≤ a := by
  obtain ⟨p, q, h1, h2, h3, h4, -⟩ := cl_split h
  exact h4
theorem mk_scl {W : Wd} {a : Nat} {c : AC} (h : W.cl a = some c) (c2 : AC) : (mk W).set a c2 = mk (W.scl a c2) := by
  obtain ⟨p, q, h1, h2, -, -, h5⟩ := cl_split h
  rw [h1, h5, ← h2, List.set_append_right _ _ (Nat.le_refl _), Nat.sub_self]
  rfl
/-- single cells at the end -/
def dsn (L : List AC) : List Dy := L.map (fun c => .inr (.inr c))
def Wd.app (W : Wd) (L : List AC) (n : Nat) : Wd := ((W.w_dyn (W.dyn ++ dsn L)).w_kc (W.kc + L.length)).w_kn (W.kn + n)
theorem dynCells_single : ∀ (b : Nat) (L : List AC), dynCells b (dsn L) = L
  | _, [] => rfl
  | b, c :: L => by
    show [c] ++ dynCells (b + 1) (dsn L) = c :: L
    rw [dynCells_single (b + 1) L]; rfl
theorem dtot_single : ∀ (L : List AC), dtot (dsn L) = L.length
  | [] => rfl
  | c :: L => by
    show 1 + dtot (dsn L) = L.length + 1
    rw [dtot_single L, Nat.add_comm]
theorem mk_app (W : Wd) (L : List AC) (n : Nat) : mk (W.app L n) = mk W ++ L := by
  have h : mk (W.app L n) = fixd W ++ dynCells 29 (W.dyn ++ dsn L) := mk_dyn (W.app L n)
  rw [h, dynCells_app, dynCells_single, mk_dyn, List.append_assoc]
theorem top_app (W : Wd) (L : List AC) (n : Nat) : (W.app L n).top = W.top + L.length := by
  show 29 + dtot (W.dyn ++ dsn L) = 29 + dtot W.dyn + L.length
  rw [dtot_app, dtot_single, Nat.add_assoc]
theorem top_scl {W : Wd} {a : Nat} {c : AC} (h : W.cl a = some c) (c2 : AC) : (W.scl a c2).top = W.top := by
  have h1 := at_cl h
  unfold Wd.at at h1
  split at h1
  · show 29 + dtot (dset W.dyn (a - 29) (.inr (.inr c2))) = 29 + dtot W.dyn
    exact congrArg (29 + ·) (dtot_set (y := .inr (.inr c2)) h1 rfl)
  · cases h1
