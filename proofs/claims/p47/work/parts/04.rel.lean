/-! ===== what the abstract machine's things are on the machine ===== -/
abbrev AK : Type := Nat × va_G × (Nat → ClassId) × (Nat → Nat) × (Nat → Nat)
def am_A (k : AK) : Nat → Prop := fun q => k.1 ≤ q
/-- what is outside: b the script, adK the texts, adV their bytes (at 100 and behind: the empty row of Objects, Integer's two tables) -/
def am_X (k : AK) (b : Nat) (i : Nat) (w : Value) : Prop :=
  if i = am_SB then w = .ref b else if i = am_SB + 1 then (w = .null ∨ ∃ a, w = .ref a) else if i < am_SB + 5 then w = .ref (k.2.2.2.2 (100 + (i - (am_SB + 2)))) else if (i - (am_SB + 10)) % 2 = 0 then w = .ref (k.2.2.2.1 ((i - (am_SB + 10)) / 2)) else w = .ref (k.2.2.2.2 ((i - (am_SB + 10)) / 2))
def am_RV (X : Nat → Value → Prop) (as : List Nat) (v w : Value) : Prop := match v with
  | .int x => w = .int x
  | .long x => w = .long x
  | .null => w = .null
  | .ref i => if i < am_SB then ∃ a, as[i]? = some a ∧ w = .ref a else X i w
  | _ => False
def am_RS (X : Nat → Value → Prop) (as : List Nat) : List Value → List Value → Prop
  | [], [] => True
  | v :: s, w :: t => am_RV X as v w ∧ am_RS X as s t
  | _, _ => False
def am_RL (X : Nat → Value → Prop) (as : List Nat) (nL : Nat) (ls : ALs) (ls' : Array Slot) : Prop :=
  ls'.size = nL ∧ ls.length = nL ∧ lv_wf ls' ∧ ∀ (i : Nat) (v : Value), ls[i]? = some (some v) → ∃ w : Value, am_RV X as v w ∧ ls'[i]? = some (Slot.val w)
abbrev AVc : Type := (Nat → Int32) ⊕ (Nat → Int64) ⊕ (Nat → UInt32) ⊕ (Nat → UInt64) ⊕ (Nat → Option Nat)
def am_RA (as : List Nat) (a b : AVc) : Prop := match a, b with
  | .inl f, .inl g => f = g
  | .inr (.inl f), .inr (.inl g) => f = g
  | .inr (.inr (.inr (.inr f))), .inr (.inr (.inr (.inr g))) => ∀ j, (f j = none → g j = none) ∧ ∀ i, f j = some i → i < am_SB ∧ ∃ q, as[i]? = some q ∧ g j = some q
  | _, _ => False
def am_RC (X : Nat → Value → Prop) (G : Nat → ClassId) (as : List Nat) (c : AC) (e : va_E) : Prop := match c, e with
  | .inl (t, n, a), .inl (cA, m, b) => cA = G t ∧ n = m ∧ t < 8 ∧ am_RA as a b
  | .inr (ci, fs), .inr (cj, gs) => ci = cj ∧ am_RS X as fs gs
  | _, _ => False
def am_RW (X : Nat → Value → Prop) (G : Nat → ClassId) (as : List Nat) (h : AHp) (ws : va_W) : Prop :=
  as.length = h.length ∧ ws.length = h.length ∧ h.length ≤ am_SB ∧ ∀ (i : Nat) (c : AC), h[i]? = some c → ∃ q e, as[i]? = some q ∧ ws[i]? = some (q, e) ∧ am_RC X G as c e
def am_tys (G : Nat → ClassId) : List (ClassId × FieldType) := [(G 0, am_el 0), (G 1, am_el 1), (G 2, am_el 2), (G 3, am_el 3), (G 4, am_el 4), (G 5, am_el 5), (G 6, am_el 6), (G 7, am_el 7)]
def am_Rel (k : AK) (X : Nat → Value → Prop) (nL : Nat) (s : State) (as0 as : List Nat) (ws : va_W) (ls : ALs) (st : List Value) (h : AHp) (ls' : Array Slot) (st' : List Value) (H : Heap) (locs : List Loc) : Prop :=
  (∃ t, as = as0 ++ t) ∧ am_RL X as nL ls ls' ∧ am_RS X as st st' ∧ am_RW X k.2.2.1 as h ws ∧ va_P k.2.1 am_cl ws H ∧ va_D (am_A k) ws ∧ va_S (am_A k) s.heap H locs
theorem am_RV_int {X : Nat → Value → Prop} {as : List Nat} {x : Int32} {w : Value} (h : am_RV X as (.int x) w) : w = .int x := h
theorem am_RV_ref {X : Nat → Value → Prop} {as : List Nat} {i : Nat} {w : Value} (h : am_RV X as (.ref i) w) (hi : i < am_SB) : ∃ a, as[i]? = some a ∧ w = .ref a := by
  have h2 : (if i < am_SB then ∃ a, as[i]? = some a ∧ w = .ref a else X i w) := h
  rwa [if_pos hi] at h2
theorem am_RV_ext {X : Nat → Value → Prop} {as : List Nat} {i : Nat} {w : Value} (h : am_RV X as (.ref i) w) (hi : ¬ i < am_SB) : X i w := by
  have h2 : (if i < am_SB then ∃ a, as[i]? = some a ∧ w = .ref a else X i w) := h
  rwa [if_neg hi] at h2
theorem am_RV_mk {X : Nat → Value → Prop} {as : List Nat} {i a : Nat} (hi : i < am_SB) (ha : as[i]? = some a) : am_RV X as (.ref i) (.ref a) := by
  show (if i < am_SB then ∃ q, as[i]? = some q ∧ Value.ref a = .ref q else X i (.ref a))
  rw [if_pos hi]; exact ⟨a, ha, rfl⟩
theorem am_RV_mkx {X : Nat → Value → Prop} {as : List Nat} {i : Nat} {w : Value} (hi : ¬ i < am_SB) (ha : X i w) : am_RV X as (.ref i) w := by
  show (if i < am_SB then ∃ q, as[i]? = some q ∧ w = .ref q else X i w)
  rw [if_neg hi]; exact ha
theorem am_get_app {as t : List Nat} {i a : Nat} (h : as[i]? = some a) : (as ++ t)[i]? = some a := by
  rw [List.getElem?_append_left (List.getElem?_eq_some_iff.mp h).1]; exact h
theorem am_RV_app {X : Nat → Value → Prop} {as t : List Nat} {v w : Value} (h : am_RV X as v w) : am_RV X (as ++ t) v w := by
  cases v with
  | ref i =>
    by_cases hi : i < am_SB
    · obtain ⟨a, h1, rfl⟩ := am_RV_ref h hi
      exact am_RV_mk hi (am_get_app h1)
    · exact am_RV_mkx hi (am_RV_ext h hi)
  | int x => exact h
  | long x => exact h
  | null => exact h
  | float x => exact h
  | double x => exact h
  | retAddr x => exact h
theorem am_RS_app {X : Nat → Value → Prop} {as t : List Nat} : ∀ {s r : List Value}, am_RS X as s r → am_RS X (as ++ t) s r
  | [], [], _ => trivial
  | _ :: _, _ :: _, h => ⟨am_RV_app h.1, am_RS_app h.2⟩
  | [], _ :: _, h => h
  | _ :: _, [], h => h
theorem am_RL_app {X : Nat → Value → Prop} {as t : List Nat} {nL : Nat} {ls : ALs} {ls' : Array Slot} (h : am_RL X as nL ls ls') : am_RL X (as ++ t) nL ls ls' := by
  refine ⟨h.1, h.2.1, h.2.2.1, fun i v hv => ?_⟩
  obtain ⟨w, h1, h2⟩ := h.2.2.2 i v hv
  exact ⟨w, am_RV_app h1, h2⟩
theorem am_RA_app {as t : List Nat} {a b : AVc} (h : am_RA as a b) : am_RA (as ++ t) a b := by
  rcases a with f | f | f | f | f <;> rcases b with g | g | g | g | g <;> try exact h
  intro j
  refine ⟨(h j).1, fun i hi => ?_⟩
  obtain ⟨h1, q, h2, h3⟩ := (h j).2 i hi
  exact ⟨h1, q, am_get_app h2, h3⟩
theorem am_RC_app {X : Nat → Value → Prop} {G : Nat → ClassId} {as t : List Nat} {c : AC} {e : va_E} (h : am_RC X G as c e) : am_RC X G (as ++ t) c e := by
  rcases c with ⟨ty, n, a⟩ | ⟨ci, fs⟩ <;> rcases e with ⟨cA, m, b⟩ | ⟨cj, gs⟩
  · exact ⟨h.1, h.2.1, h.2.2.1, am_RA_app h.2.2.2⟩
  · exact h
  · exact h
  · exact ⟨h.1, am_RS_app h.2⟩
theorem am_RS_cons {X : Nat → Value → Prop} {as : List Nat} {v : Value} {s t : List Value} (h : am_RS X as (v :: s) t) : ∃ w r, t = w :: r ∧ am_RV X as v w ∧ am_RS X as s r := by
  cases t with
  | nil => exact h.elim
  | cons w r => exact ⟨w, r, rfl, h.1, h.2⟩
theorem am_RS_nil {X : Nat → Value → Prop} {as : List Nat} {t : List Value} (h : am_RS X as [] t) : t = [] := by
  cases t with
  | nil => rfl
  | cons w r => exact h.elim
theorem am_RS_int {X : Nat → Value → Prop} {as : List Nat} {x : Int32} {s t : List Value} (h : am_RS X as (.int x :: s) t) : ∃ r, t = .int x :: r ∧ am_RS X as s r := by
  obtain ⟨w, r, rfl, rfl, h2⟩ := am_RS_cons h
  exact ⟨r, rfl, h2⟩
theorem am_RS_long {X : Nat → Value → Prop} {as : List Nat} {x : Int64} {s t : List Value} (h : am_RS X as (.long x :: s) t) : ∃ r, t = .long x :: r ∧ am_RS X as s r := by
  obtain ⟨w, r, rfl, rfl, h2⟩ := am_RS_cons h
  exact ⟨r, rfl, h2⟩
theorem am_RS_ref {X : Nat → Value → Prop} {as : List Nat} {i : Nat} {s t : List Value} (h : am_RS X as (.ref i :: s) t) (hi : i < am_SB) : ∃ a r, as[i]? = some a ∧ t = .ref a :: r ∧ am_RS X as s r := by
  obtain ⟨w, r, rfl, h1, h2⟩ := am_RS_cons h
  obtain ⟨a, h3, rfl⟩ := am_RV_ref h1 hi
  exact ⟨a, r, h3, rfl, h2⟩
theorem am_RS_len {X : Nat → Value → Prop} {as : List Nat} : ∀ {s t : List Value}, am_RS X as s t → t.length = s.length
  | [], [], _ => rfl
  | _ :: _, _ :: _, h => by rw [List.length_cons, List.length_cons, am_RS_len h.2]
  | [], _ :: _, h => h.elim
  | _ :: _, [], h => h.elim
theorem am_RS_get {X : Nat → Value → Prop} {as : List Nat} : ∀ {s t : List Value} {k : Nat} {v : Value}, am_RS X as s t → s[k]? = some v → ∃ w, t[k]? = some w ∧ am_RV X as v w
  | [], _, _, _, _, h => by simp at h
  | _ :: _, [], _, _, h, _ => h.elim
  | a :: s, b :: t, 0, v, h, hk => by
    rw [List.getElem?_cons_zero] at hk ⊢
    cases hk
    exact ⟨b, rfl, h.1⟩
  | a :: s, b :: t, k + 1, v, h, hk => by
    rw [List.getElem?_cons_succ] at hk ⊢
    exact am_RS_get h.2 hk
theorem am_RS_set {X : Nat → Value → Prop} {as : List Nat} : ∀ {s t : List Value} (k : Nat) {v w : Value}, am_RS X as s t → am_RV X as v w → am_RS X as (s.set k v) (t.set k w)
  | [], [], _, _, _, _, _ => trivial
  | [], _ :: _, _, _, _, h, _ => h.elim
  | _ :: _, [], _, _, _, h, _ => h.elim
  | a :: s, b :: t, 0, v, w, h, hv => ⟨hv, h.2⟩
  | a :: s, b :: t, k + 1, v, w, h, hv => ⟨h.1, am_RS_set k h.2 hv⟩
theorem am_RS_append {X : Nat → Value → Prop} {as : List Nat} : ∀ {a b c d : List Value}, am_RS X as a b → am_RS X as c d → am_RS X as (a ++ c) (b ++ d)
  | [], [], _, _, _, h => h
  | _ :: _, _ :: _, _, _, h, h2 => ⟨h.1, am_RS_append h.2 h2⟩
  | [], _ :: _, _, _, h, _ => h.elim
  | _ :: _, [], _, _, h, _ => h.elim
theorem am_RS_reverse {X : Nat → Value → Prop} {as : List Nat} : ∀ {a b : List Value}, am_RS X as a b → am_RS X as a.reverse b.reverse
  | [], [], _ => trivial
  | _ :: _, _ :: _, h => by
    rw [List.reverse_cons, List.reverse_cons]
    exact am_RS_append (am_RS_reverse h.2) ⟨h.1, trivial⟩
  | [], _ :: _, h => h.elim
  | _ :: _, [], h => h.elim
theorem am_RS_take {X : Nat → Value → Prop} {as : List Nat} : ∀ (n : Nat) {a b : List Value}, am_RS X as a b → am_RS X as (a.take n) (b.take n) ∧ am_RS X as (a.drop n) (b.drop n)
  | 0, _, _, h => ⟨by rw [List.take_zero, List.take_zero]; trivial, h⟩
  | n + 1, [], [], _ => ⟨trivial, trivial⟩
  | n + 1, _ :: _, _ :: _, h => ⟨⟨h.1, (am_RS_take n h.2).1⟩, (am_RS_take n h.2).2⟩
  | _ + 1, [], _ :: _, h => h.elim
  | _ + 1, _ :: _, [], h => h.elim
/-- what is outside the world is a cell or null -/
def am_Xok (X : Nat → Value → Prop) : Prop := ∀ i w, X i w → w = .null ∨ ∃ a, w = .ref a
theorem am_X_ok (k : AK) (b : Nat) : am_Xok (am_X k b) := by
  intro i w h
  unfold am_X at h
  split at h
  · exact Or.inr ⟨_, h⟩
  · split at h
    · exact h
    · split at h
      · exact Or.inr ⟨_, h⟩
      · split at h
        · exact Or.inr ⟨_, h⟩
        · exact Or.inr ⟨_, h⟩
theorem am_RV_cat {X : Nat → Value → Prop} (hX : am_Xok X) {as : List Nat} {v w : Value} (h : am_RV X as v w) : w.category = v.category := by
  cases v with
  | ref i =>
    by_cases hi : i < am_SB
    · obtain ⟨a, -, rfl⟩ := am_RV_ref h hi
      rfl
    · rcases hX i w (am_RV_ext h hi) with rfl | ⟨a, rfl⟩ <;> rfl
  | int x => rw [show w = .int x from h]
  | long x => rw [show w = .long x from h]
  | null => rw [show w = .null from h]
  | float x => exact False.elim h
  | double x => exact False.elim h
  | retAddr x => exact False.elim h
theorem am_RS_cat {X : Nat → Value → Prop} (hX : am_Xok X) {as : List Nat} : ∀ {s t : List Value}, am_RS X as s t → (t.map fun v => v.category) = s.map Value.category
  | [], [], _ => rfl
  | _ :: _, _ :: _, h => by rw [List.map_cons, List.map_cons, am_RS_cat hX h.2, am_RV_cat hX h.1]
  | [], _ :: _, h => h.elim
  | _ :: _, [], h => h.elim
/-! the locals -/
theorem am_RL_get {X : Nat → Value → Prop} {as : List Nat} {nL : Nat} {ls : ALs} {ls' : Array Slot} (h : am_RL X as nL ls ls') {i : Nat} {v : Value} (hv : ls[i]? = some (some v)) : ∃ w, am_RV X as v w ∧ ls'[i]? = some (.val w) := h.2.2.2 i v hv
def am_full (ls' : Array Slot) : List (Nat × Value) := (List.range ls'.size).filterMap fun j => match ls'[j]? with
  | some (Slot.val w) => some (j, w)
  | _ => none
theorem am_full_has {ls' : Array Slot} {nL : Nat} (h1 : ls'.size = nL) (h2 : lv_wf ls') : lv_has ls' nL (am_full ls') := by
  refine ⟨h1, h2, fun q hq => ?_⟩
  obtain ⟨j, -, hj⟩ := List.mem_filterMap.mp hq
  split at hj
  · next w hw => cases hj; exact hw
  · cases hj
theorem am_full_mem {ls' : Array Slot} {j : Nat} {w : Value} (h : ls'[j]? = some (.val w)) : (j, w) ∈ am_full ls' := by
  refine List.mem_filterMap.mpr ⟨j, List.mem_range.mpr (Array.getElem?_eq_some_iff.mp h).1, ?_⟩
  rw [h]
theorem am_kill_len (ls : ALs) (i : Nat) : (am_kill ls i).length = ls.length := by
  unfold am_kill
  split
  · rfl
  · split
    · rw [List.length_set]
    · rfl
theorem am_kill_get {ls : ALs} {i j : Nat} {v : Value} (h : (am_kill ls i)[j]? = some (some v)) : ls[j]? = some (some v) ∧ ¬ (j + 1 = i ∧ v.category = 2 ∧ ∃ x, v = .long x) := by
  unfold am_kill at h
  split at h
  · exact ⟨h, fun q => by omega⟩
  · next _ n =>
    split at h
    · next x hx =>
      by_cases e : n = j
      · subst e
        rw [List.getElem?_set_self (List.getElem?_eq_some_iff.mp hx).1] at h
        cases h
      · rw [List.getElem?_set_ne e] at h
        exact ⟨h, fun q => e (by omega)⟩
    · next hx =>
      refine ⟨h, fun q => ?_⟩
      obtain ⟨q1, -, x, rfl⟩ := q
      have e : n = j := by omega
      subst e
      exact hx x h
theorem am_RV_cat2 {X : Nat → Value → Prop} (hX : am_Xok X) {as : List Nat} {v w : Value} (h : am_RV X as v w) (hc : w.category = 2) : ∃ x, v = .long x := by
  have h2 := am_RV_cat hX h
  rw [hc] at h2
  cases v with
  | long x => exact ⟨x, rfl⟩
  | ref i => cases h2
  | int x => cases h2
  | null => cases h2
  | float x => cases h2
  | double x => exact False.elim h
  | retAddr x => cases h2
/-- a store of one slot -/
theorem am_RL_set1 {X : Nat → Value → Prop} (hX : am_Xok X) {as : List Nat} {nL : Nat} {ls : ALs} {ls1 ls2 : Array Slot} (h : am_RL X as nL ls ls1) {i : Nat} {v w : Value} (hi : i < ls.length) (hv : am_RV X as v w) (h2 : lv_has ls2 nL ((i, w) :: (am_full ls1).filter (fun q => !(q.1 == i) && !(q.1 + 1 == i && q.2.category == 2)))) : am_RL X as nL (am_set1 ls i v) ls2 := by
  refine ⟨h2.1, by rw [am_set1, List.length_set, am_kill_len]; exact h.2.1, h2.2.1, fun j u hj => ?_⟩
  rw [am_set1] at hj
  by_cases e : i = j
  · subst e
    rw [List.getElem?_set_self (by rw [am_kill_len]; exact hi)] at hj
    cases hj
    exact ⟨w, hv, h2.2.2 (i, w) List.mem_cons_self⟩
  · rw [List.getElem?_set_ne e] at hj
    obtain ⟨h3, h4⟩ := am_kill_get hj
    obtain ⟨u', h5, h6⟩ := h.2.2.2 j u h3
    refine ⟨u', h5, h2.2.2 (j, u') (List.mem_cons_of_mem _ (List.mem_filter.mpr ⟨am_full_mem h6, ?_⟩))⟩
    have e1 : (j == i) = false := by simpa using fun q => e q.symm
    rw [e1]
    simp only [Bool.not_false, Bool.true_and, Bool.not_eq_true', Bool.and_eq_false_iff, beq_eq_false_iff_ne, ne_eq]
    by_cases e2 : j + 1 = i
    · right
      intro hc
      obtain ⟨x, hx⟩ := am_RV_cat2 hX h5 hc
      exact h4 ⟨e2, by rw [hx]; rfl, x, hx⟩
    · exact Or.inl e2
theorem am_RL_clr {X : Nat → Value → Prop} (hX : am_Xok X) {as : List Nat} {nL : Nat} {ls : ALs} {ls1 ls2 : Array Slot} (h : am_RL X as nL ls ls1) {i : Nat} {w : Value} (hi : i < ls.length) (h2 : lv_has ls2 nL ((i, w) :: (am_full ls1).filter (fun q => !(q.1 == i) && !(q.1 + 1 == i && q.2.category == 2)))) : am_RL X as nL (am_clr ls i) ls2 := by
  refine ⟨h2.1, by rw [am_clr, List.length_set, am_kill_len]; exact h.2.1, h2.2.1, fun j u hj => ?_⟩
  rw [am_clr] at hj
  by_cases e : i = j
  · subst e
    rw [List.getElem?_set_self (by rw [am_kill_len]; exact hi)] at hj
    cases hj
  · rw [List.getElem?_set_ne e] at hj
    obtain ⟨h3, h4⟩ := am_kill_get hj
    obtain ⟨u', h5, h6⟩ := h.2.2.2 j u h3
    refine ⟨u', h5, h2.2.2 (j, u') (List.mem_cons_of_mem _ (List.mem_filter.mpr ⟨am_full_mem h6, ?_⟩))⟩
    have e1 : (j == i) = false := by simpa using fun q => e q.symm
    rw [e1]
    simp only [Bool.not_false, Bool.true_and, Bool.not_eq_true', Bool.and_eq_false_iff, beq_eq_false_iff_ne, ne_eq]
    by_cases e2 : j + 1 = i
    · right
      intro hc
      obtain ⟨x, hx⟩ := am_RV_cat2 hX h5 hc
      exact h4 ⟨e2, by rw [hx]; rfl, x, hx⟩
    · exact Or.inl e2
/-- a store of two -/
theorem am_RL_set2 {X : Nat → Value → Prop} (hX : am_Xok X) {as : List Nat} {nL : Nat} {ls : ALs} {ls1 ls2 : Array Slot} (h : am_RL X as nL ls ls1) {i : Nat} {v w : Value} (hi : i + 1 < ls.length) (hv : am_RV X as v w) (h2 : lv_has ls2 nL ((i, w) :: (am_full ls1).filter (fun q => !(q.1 == i) && (!(q.1 == i + 1) && !(q.1 + 1 == i && q.2.category == 2))))) : am_RL X as nL (am_set2 ls i v) ls2 := by
  refine ⟨h2.1, by rw [am_set2, List.length_set, List.length_set, am_kill_len]; exact h.2.1, h2.2.1, fun j u hj => ?_⟩
  rw [am_set2] at hj
  by_cases e3 : i + 1 = j
  · subst e3
    rw [List.getElem?_set_self (by rw [List.length_set, am_kill_len]; exact hi)] at hj
    cases hj
  rw [List.getElem?_set_ne e3] at hj
  by_cases e : i = j
  · subst e
    rw [List.getElem?_set_self (by rw [am_kill_len]; omega)] at hj
    cases hj
    exact ⟨w, hv, h2.2.2 (i, w) List.mem_cons_self⟩
  · rw [List.getElem?_set_ne e] at hj
    obtain ⟨h3, h4⟩ := am_kill_get hj
    obtain ⟨u', h5, h6⟩ := h.2.2.2 j u h3
    refine ⟨u', h5, h2.2.2 (j, u') (List.mem_cons_of_mem _ (List.mem_filter.mpr ⟨am_full_mem h6, ?_⟩))⟩
    have e1 : (j == i) = false := by simpa using fun q => e q.symm
    have e4 : (j == i + 1) = false := by simpa using fun q => e3 q.symm
    rw [e1, e4]
    simp only [Bool.not_false, Bool.true_and, Bool.not_eq_true', Bool.and_eq_false_iff, beq_eq_false_iff_ne, ne_eq]
    by_cases e2 : j + 1 = i
    · right
      intro hc
      obtain ⟨x, hx⟩ := am_RV_cat2 hX h5 hc
      exact h4 ⟨e2, by rw [hx]; rfl, x, hx⟩
    · exact Or.inl e2
/-! the heap -/
theorem am_RW_get {X : Nat → Value → Prop} {G : Nat → ClassId} {as : List Nat} {h : AHp} {ws : va_W} (R : am_RW X G as h ws) {i a : Nat} {c : AC} (hc : h[i]? = some c) (ha : as[i]? = some a) : ∃ e, ws[i]? = some (a, e) ∧ am_RC X G as c e := by
  obtain ⟨q, e, h1, h2, h3⟩ := R.2.2.2 i c hc
  rw [ha] at h1
  cases h1
  exact ⟨e, h2, h3⟩
theorem am_RW_set {X : Nat → Value → Prop} {G : Nat → ClassId} {as : List Nat} {h : AHp} {ws : va_W} (R : am_RW X G as h ws) {i a : Nat} {c : AC} {e : va_E} (ha : as[i]? = some a) (hc : am_RC X G as c e) : am_RW X G as (h.set i c) (ws.set i (a, e)) := by
  refine ⟨by rw [List.length_set]; exact R.1, by rw [List.length_set, List.length_set]; exact R.2.1, by rw [List.length_set]; exact R.2.2.1, fun j d hj => ?_⟩
  by_cases q : i = j
  · subst q
    have hl : i < h.length := by
      have := (List.getElem?_eq_some_iff.mp ha).1
      rw [R.1] at this
      exact this
    rw [List.getElem?_set_self hl] at hj
    cases hj
    exact ⟨a, e, ha, List.getElem?_set_self (by rw [R.2.1]; exact hl), hc⟩
  · rw [List.getElem?_set_ne q] at hj
    rw [List.getElem?_set_ne q]
    exact R.2.2.2 j d hj
theorem am_RW_push {X : Nat → Value → Prop} {G : Nat → ClassId} {as : List Nat} {h : AHp} {ws : va_W} (R : am_RW X G as h ws) {a : Nat} {c : AC} {e : va_E} (hs : h.length < am_SB) (hc : am_RC X G as c e) : am_RW X G (as ++ [a]) (h ++ [c]) (ws ++ [(a, e)]) := by
  refine ⟨by simp [R.1], by simp [R.2.1], by simp; omega, fun j d hj => ?_⟩
  by_cases q : j < h.length
  · rw [List.getElem?_append_left q] at hj
    obtain ⟨b, f, h1, h2, h3⟩ := R.2.2.2 j d hj
    exact ⟨b, f, am_get_app h1, by rw [List.getElem?_append_left (by rw [R.2.1]; exact q)]; exact h2, am_RC_app h3⟩
  · rw [List.getElem?_append_right (by omega)] at hj
    have hz : j - h.length < 1 := (List.getElem?_eq_some_iff.mp hj).1
    have hj0 : j = h.length := by omega
    subst hj0
    rw [Nat.sub_self] at hj
    cases hj
    refine ⟨a, e, ?_, ?_, am_RC_app hc⟩
    · rw [List.getElem?_append_right (by rw [R.1]; exact Nat.le_refl _), R.1, Nat.sub_self]; rfl
    · rw [List.getElem?_append_right (by rw [R.2.1]; exact Nat.le_refl _), R.2.1, Nat.sub_self]; rfl
theorem am_in {i : Int32} {n : Nat} (h1 : 0 ≤ i.toInt) (h2 : i.toInt < n) : vp_in i n := vp_in_iff.mpr ⟨h1, h2⟩
