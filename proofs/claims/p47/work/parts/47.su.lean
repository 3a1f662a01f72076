/-! ===== STRATEGIES CHANGED, AND THE BOUND ===== -/
def sbw (B : Bd) (f g h : Nat → Int32) (c : Int32) : Bd := (((B.w_targets f).w_weights g).w_parents h).w_strategyCount c
section SU
variable {n E sc : Nat} {tg : Nat → Nat} {wt : Nat → Nat → Nat} {pr : Nat → Nat → Option Nat} {B : Bd} {p : Nat → Nat}
theorem c27 {k v : Nat} (h : 6 * k + v < 36) (x3 x4 : Int32) : F_27 B (nI k) (nI v) x3 x4 = some ((B.w_weights (upd B.weights (6 * k + v) x4)).w_parents (upd B.parents (6 * k + v) x3)) := by
  unfold F_27
  rw [li6, ixn h (by decide), Option.bind_some, Option.bind_some, Option.bind_some]
  rfl
theorem c25 (hS : CS n sc tg wt pr B) (h6 : sc < 6) (t : Nat) : ∃ f g h, F_25 B (nI t) = some (sbw B f g h (nI (sc + 1))) ∧ f = upd B.targets sc (nI t) ∧ (∀ j, g j = if 6 * sc ≤ j ∧ j < 6 * sc + 6 then 0 else B.weights j) ∧ (∀ j, h j = if 6 * sc ≤ j ∧ j < 6 * sc + 6 then -1 else B.parents j) := by
  obtain ⟨x, e1, g, h, rfl, h1, h2⟩ : ∃ x, lw (G_25_14 B.strategyCount) 200000 (0, B.w_targets (upd B.targets sc (nI t))) = some x ∧ ∃ g h, x = sbw B (upd B.targets sc (nI t)) g h B.strategyCount ∧ (∀ j, g j = if 6 * sc ≤ j ∧ j < 6 * sc + 6 then 0 else B.weights j) ∧ (∀ j, h j = if 6 * sc ≤ j ∧ j < 6 * sc + 6 then -1 else B.parents j) := by
    refine lw_for (n := 6) (fun i st => ∃ g h, st = (nI i, sbw B (upd B.targets sc (nI t)) g h B.strategyCount) ∧ (∀ j, g j = if 6 * sc ≤ j ∧ j < 6 * sc + i then 0 else B.weights j) ∧ (∀ j, h j = if 6 * sc ≤ j ∧ j < 6 * sc + i then -1 else B.parents j)) ?_ ?_ ⟨B.weights, B.parents, rfl, fun j => by rw [if_neg (by omega)], fun j => by rw [if_neg (by omega)]⟩ (by omega)
    · rintro i st hi ⟨g, h, rfl, h1, h2⟩
      left
      refine ⟨(nI (i + 1), sbw B (upd B.targets sc (nI t)) (upd g (6 * sc + i) 0) (upd h (6 * sc + i) (-1)) B.strategyCount), ?_, _, _, rfl, fun j => ?_, fun j => ?_⟩
      · simp only [G_25_14]
        rw [if_neg (show ¬ (6 : Int32) ≤ nI i from nI_ge (b := 6) hi (by decide)), hS.1, c27 (by omega), Option.bind_some, nI_1]
        rfl
      · by_cases h3 : j = 6 * sc + i
        · subst h3; rw [pk_us, if_pos (by omega)]
        · rw [pk_un h3, h1 j]
          by_cases h4 : 6 * sc ≤ j ∧ j < 6 * sc + i
          · rw [if_pos h4, if_pos (by omega)]
          · rw [if_neg h4, if_neg (by omega)]
      · by_cases h3 : j = 6 * sc + i
        · subst h3; rw [pk_us, if_pos (by omega)]
        · rw [pk_un h3, h2 j]
          by_cases h4 : 6 * sc ≤ j ∧ j < 6 * sc + i
          · rw [if_pos h4, if_pos (by omega)]
          · rw [if_neg h4, if_neg (by omega)]
    · rintro st ⟨g, h, rfl, h1, h2⟩
      refine ⟨_, ?_, g, h, rfl, h1, h2⟩
      simp only [G_25_14]
      rw [if_pos (show (6 : Int32) ≤ nI 6 from nI_le (a := 6) (Nat.le_refl _) (by decide))]
  refine ⟨upd B.targets sc (nI t), g, h, ?_, rfl, h1, h2⟩
  unfold F_25
  rw [show ix B.strategyCount 6 = some sc by rw [hS.1]; exact ixn h6 (by decide), Option.bind_some, Option.bind_some, e1, Option.bind_some, Option.bind_some]
  show some (sbw B (upd B.targets sc (nI t)) g h (B.strategyCount + 1)) = _
  rw [hS.1, nI_1]
/-- strategies with one more -/
def otg (sc : Nat) (tg : Nat → Nat) (t : Nat) : Nat → Nat := fun k => if k = sc then t else tg k
def owt (sc : Nat) (wt : Nat → Nat → Nat) : Nat → Nat → Nat := fun k v => if k = sc then 0 else wt k v
def opr (sc : Nat) (pr : Nat → Nat → Option Nat) : Nat → Nat → Option Nat := fun k v => if k = sc then none else pr k v
theorem c25S (hS : CS n sc tg wt pr B) (hn : n ≤ 6) {t : Nat} {f g h : Nat → Int32} (h1 : f = upd B.targets sc (nI t)) (h2 : ∀ j, g j = if 6 * sc ≤ j ∧ j < 6 * sc + 6 then 0 else B.weights j) (h3 : ∀ j, h j = if 6 * sc ≤ j ∧ j < 6 * sc + 6 then -1 else B.parents j) : CS n (sc + 1) (otg sc tg t) (owt sc wt) (opr sc pr) (sbw B f g h (nI (sc + 1))) := by
  refine ⟨rfl, fun k hk => ⟨?_, fun v hv => ⟨?_, ?_⟩⟩⟩
  · show f k = _
    subst h1
    unfold otg
    by_cases h4 : k = sc
    · subst h4; rw [pk_us, if_pos rfl]
    · rw [pk_un h4, if_neg h4, (hS.2 k (by omega)).1]
  · show g (6 * k + v) = _
    rw [h2]
    unfold owt
    by_cases h4 : k = sc
    · subst h4; rw [if_pos (by omega), if_pos rfl]; rfl
    · rw [if_neg (by omega), if_neg h4, ((hS.2 k (by omega)).2 v hv).1]
  · show h (6 * k + v) = _
    rw [h3]
    unfold opr
    by_cases h4 : k = sc
    · subst h4; rw [if_pos (by omega), if_pos rfl]; rfl
    · rw [if_neg (by omega), if_neg h4, ((hS.2 k (by omega)).2 v hv).2]
theorem oSO (hO : SO n sc tg wt pr) (h6 : sc < 6) {t : Nat} (ht : t < n) : SO n (sc + 1) (otg sc tg t) (owt sc wt) (opr sc pr) := by
  refine ⟨by omega, fun k hk => ?_⟩
  unfold otg owt opr
  by_cases h4 : k = sc
  · simp only [if_pos h4]
    exact ⟨ht, fun v hv => ⟨by omega, fun q hq => by cases hq⟩⟩
  · simp only [if_neg h4]
    exact hO.2 k (by omega)
/-- strategies without one -/
def dtg (k : Nat) (tg : Nat → Nat) : Nat → Nat := fun i => if i < k then tg i else tg (i + 1)
def dwt {α : Type} (k : Nat) (wt : Nat → Nat → α) : Nat → Nat → α := fun i v => if i < k then wt i v else wt (i + 1) v
theorem dSO (hO : SO n sc tg wt pr) {k : Nat} (hk : k < sc) : SO n (sc - 1) (dtg k tg) (dwt k wt) (dwt k pr) := by
  have := hO.1
  refine ⟨by omega, fun i hi => ?_⟩
  unfold dtg dwt
  by_cases h4 : i < k
  · simp only [if_pos h4]; exact hO.2 i (by omega)
  · simp only [if_neg h4]; exact hO.2 (i + 1) (by omega)
theorem c26 (hB : CB n E B) (hS : CS n sc tg wt pr B) (hn : n ≤ 6) (h6 : sc ≤ 6) {k : Nat} (hk : k < sc) : ∃ f g h, F_26 B (nI k) = some (sbw B f g h (nI (sc - 1))) ∧ CS n (sc - 1) (dtg k tg) (dwt k wt) (dwt k pr) (sbw B f g h (nI (sc - 1))) := by
  have inner : ∀ i f g h, i + 1 < sc → ∃ x, lw (G_26_28 (nI i)) 200000 (0, sbw B f g h (nI sc)) = some x ∧ ∃ g' h', x = sbw B f g' h' (nI sc) ∧ (∀ v, v < n → g' (6 * i + v) = g (6 * (i + 1) + v) ∧ h' (6 * i + v) = h (6 * (i + 1) + v)) ∧ (∀ j, (j < 6 * i ∨ 6 * i + 6 ≤ j) → g' j = g j ∧ h' j = h j) := by
    intro i f g h hi
    refine lw_for (n := n) (fun v st => ∃ g' h', st = (nI v, sbw B f g' h' (nI sc)) ∧ (∀ w, w < v → g' (6 * i + w) = g (6 * (i + 1) + w) ∧ h' (6 * i + w) = h (6 * (i + 1) + w)) ∧ (∀ j, (j < 6 * i ∨ 6 * i + 6 ≤ j) → g' j = g j ∧ h' j = h j)) ?_ ?_ ⟨g, h, rfl, fun v hv => absurd hv (Nat.not_lt_zero _), fun _ _ => ⟨rfl, rfl⟩⟩ (by omega)
    · rintro v st hv ⟨g', h', rfl, h1, h2⟩
      left
      refine ⟨(nI (v + 1), sbw B f (upd g' (6 * i + v) (g' (6 * (i + 1) + v))) (upd h' (6 * i + v) (h' (6 * (i + 1) + v))) (nI sc)), ?_, _, _, rfl, fun w hw => ?_, fun j hj => ?_⟩
      · simp only [G_26_28]
        have hv' : (sbw B f g' h' (nI sc)).vertices = nI n := hB.1
        rw [hv', if_neg (nI_ge hv (by omega)), nI_1, F_29, li6, ixn (by omega) (by decide), Option.bind_some, Option.bind_some, F_28, li6, ixn (by omega) (by decide), Option.bind_some, Option.bind_some, c27 (by omega), Option.bind_some, nI_1]
        rfl
      · by_cases h4 : w = v
        · subst h4
          rw [pk_us, pk_us, (h2 _ (by omega)).1, (h2 _ (by omega)).2]
          exact ⟨rfl, rfl⟩
        · rw [pk_un (by omega), pk_un (by omega)]; exact h1 w (by omega)
      · rw [pk_un (by omega), pk_un (by omega)]; exact h2 j hj
    · rintro st ⟨g', h', rfl, h1, h2⟩
      refine ⟨_, ?_, g', h', rfl, h1, h2⟩
      simp only [G_26_28]
      have hv' : (sbw B f g' h' (nI sc)).vertices = nI n := hB.1
      rw [hv', if_pos (nI_le (Nat.le_refl _) (by omega))]
  obtain ⟨x, e1, f, g, h, rfl, h1, h2⟩ : ∃ x, lw (G_26_2) 200000 (nI k, B) = some x ∧ ∃ f g h, x = sbw B f g h (nI sc) ∧
      (∀ i, i + 1 < sc → f i = nI (dtg k tg i) ∧ ∀ v, v < n → g (6 * i + v) = nI (dwt k wt i v) ∧ h (6 * i + v) = pI (dwt k pr i v)) ∧ True := by
    refine lw_for (n := sc - 1 - k) (fun m st => ∃ f g h, st = (nI (k + m), sbw B f g h (nI sc)) ∧ (∀ i, i < k + m → f i = nI (dtg k tg i) ∧ ∀ v, v < n → g (6 * i + v) = nI (dwt k wt i v) ∧ h (6 * i + v) = pI (dwt k pr i v)) ∧ (∀ i, k + m ≤ i → i < sc → f i = nI (tg i) ∧ ∀ v, v < n → g (6 * i + v) = nI (wt i v) ∧ h (6 * i + v) = pI (pr i v))) ?_ ?_ ?_ (by omega)
    · rintro m st hm ⟨f, g, h, rfl, h1, h2⟩
      left
      obtain ⟨x, e1, g', h', rfl, h3, h4⟩ := inner (k + m) (upd f (k + m) (f (k + m + 1))) g h (by omega)
      refine ⟨(nI (k + (m + 1)), sbw B (upd f (k + m) (f (k + m + 1))) g' h' (nI sc)), ?_, _, _, _, rfl, fun i hi => ?_, fun i hi hi2 => ?_⟩
      · simp only [G_26_2]
        have hv' : (sbw B f g h (nI sc)).strategyCount = nI sc := rfl
        rw [hv', nI_1, if_neg (nI_ge (by omega) (by omega)), ixn (by omega) (by decide), Option.bind_some, ixn (by omega) (by decide), Option.bind_some, Option.bind_some]
        rw [show (sbw B f g h (nI sc)).w_targets (upd (sbw B f g h (nI sc)).targets (k + m) ((sbw B f g h (nI sc)).targets (k + m + 1))) = sbw B (upd f (k + m) (f (k + m + 1))) g h (nI sc) from rfl, e1, Option.bind_some]
        rfl
      · by_cases h5 : i = k + m
        · subst h5
          have h6' := h2 (k + m + 1) (by omega) (by omega)
          refine ⟨?_, fun v hv => ?_⟩
          · rw [pk_us, h6'.1]; unfold dtg; rw [if_neg (by omega)]
          · rw [(h3 v hv).1, (h3 v hv).2, (h6'.2 v hv).1, (h6'.2 v hv).2]; unfold dwt; rw [if_neg (by omega), if_neg (by omega)]; exact ⟨rfl, rfl⟩
        · have h6' := h1 i (by omega)
          refine ⟨by rw [pk_un h5]; exact h6'.1, fun v hv => ?_⟩
          rw [(h4 (6 * i + v) (by omega)).1, (h4 (6 * i + v) (by omega)).2]
          exact h6'.2 v hv
      · have h6' := h2 i (by omega) hi2
        refine ⟨by rw [pk_un (by omega)]; exact h6'.1, fun v hv => ?_⟩
        rw [(h4 (6 * i + v) (by omega)).1, (h4 (6 * i + v) (by omega)).2]
        exact h6'.2 v hv
    · rintro st ⟨f, g, h, rfl, h1, h2⟩
      refine ⟨sbw B f g h (nI sc), ?_, f, g, h, rfl, fun i hi => h1 i (by omega), trivial⟩
      simp only [G_26_2]
      have hv' : (sbw B f g h (nI sc)).strategyCount = nI sc := rfl
      rw [hv', nI_1, if_pos (nI_le (by omega) (by omega))]
    · refine ⟨B.targets, B.weights, B.parents, ?_, fun i hi => ?_, fun i hi hi2 => hS.2 i hi2⟩
      · rw [Nat.add_zero, ← hS.1]; rfl
      · have h6' := hS.2 i (by omega)
        refine ⟨?_, fun v hv => ?_⟩
        · unfold dtg; rw [if_pos (by omega)]; exact h6'.1
        · unfold dwt; rw [if_pos (by omega), if_pos (by omega)]; exact h6'.2 v hv
  refine ⟨f, g, h, ?_, rfl, fun i hi => h1 i (by omega)⟩
  unfold F_26
  rw [e1, Option.bind_some, Option.bind_some]
  show some (sbw B f g h (nI sc - 1)) = _
  rw [z1, pk_sub (by omega)]
theorem dMS {R R' : Nat → Int32} (hS : MS n sc tg wt pr R) (hn : n ≤ 6) {k : Nat} (hk : k < sc) (h14 : R' 14 = nI (sc - 1)) (h : ∀ j, ¬ j = 14 → R' j = if 15 + 13 * k ≤ j ∧ j < 15 + 13 * (sc - 1) then R (j + 13) else R j) : MS n (sc - 1) (dtg k tg) (dwt k wt) (dwt k pr) R' := by
  refine ⟨h14, fun i hi => ?_⟩
  unfold dtg dwt
  by_cases h4 : i < k
  · have h5 := hS.2 i (by omega)
    simp only [if_pos h4]
    refine ⟨by rw [h _ (by omega), if_neg (by omega)]; exact h5.1, fun v hv => ?_⟩
    rw [h _ (by omega), if_neg (by omega), h _ (by omega), if_neg (by omega)]
    exact h5.2 v hv
  · have h5 := hS.2 (i + 1) (by omega)
    simp only [if_neg h4]
    refine ⟨?_, fun v hv => ?_⟩
    · rw [h _ (by omega), if_pos (by omega), show 15 + 13 * i + 13 = 15 + 13 * (i + 1) by omega]; exact h5.1
    · rw [h _ (by omega), if_pos (by omega), h _ (by omega), if_pos (by omega), show 16 + 13 * i + v + 13 = 16 + 13 * (i + 1) + v by omega, show 22 + 13 * i + v + 13 = 22 + 13 * (i + 1) + v by omega]
      exact h5.2 v hv
/-- one weight changed -/
def uwt {α : Type} (k v : Nat) (x : α) (wt : Nat → Nat → α) : Nat → Nat → α := fun i w => if i = k ∧ w = v then x else wt i w
theorem uSO (hO : SO n sc tg wt pr) {k v q w : Nat} (hq : q < n) (hw : w ≤ 64) : SO n sc tg (uwt k v w wt) (uwt k v (some q) pr) := by
  refine ⟨hO.1, fun i hi => ⟨(hO.2 i hi).1, fun x hx => ?_⟩⟩
  unfold uwt
  by_cases h4 : i = k ∧ x = v
  · simp only [if_pos h4]; exact ⟨hw, fun r hr => by cases hr; exact hq⟩
  · simp only [if_neg h4]; exact (hO.2 i hi).2 x hx
theorem uCS (hS : CS n sc tg wt pr B) (hn : n ≤ 6) {k v q w : Nat} (hv : v < n) : CS n sc tg (uwt k v w wt) (uwt k v (some q) pr) ((B.w_weights (upd B.weights (6 * k + v) (nI w))).w_parents (upd B.parents (6 * k + v) (nI q))) := by
  refine ⟨hS.1, fun i hi => ⟨(hS.2 i hi).1, fun x hx => ?_⟩⟩
  unfold uwt
  show upd B.weights (6 * k + v) (nI w) (6 * i + x) = _ ∧ upd B.parents (6 * k + v) (nI q) (6 * i + x) = _
  by_cases h4 : i = k ∧ x = v
  · obtain ⟨rfl, rfl⟩ := h4
    rw [pk_us, pk_us, if_pos ⟨rfl, rfl⟩, if_pos ⟨rfl, rfl⟩]
    exact ⟨rfl, rfl⟩
  · rw [pk_un (by omega), pk_un (by omega), if_neg h4, if_neg h4]
    exact (hS.2 i hi).2 x hx
theorem uMS {R : Nat → Int32} (hS : MS n sc tg wt pr R) (hn : n ≤ 6) {k v q w : Nat} (hv : v < n) : MS n sc tg (uwt k v w wt) (uwt k v (some q) pr) (upd (upd R (16 + 13 * k + v) (nI w)) (22 + 13 * k + v) (nI q)) := by
  refine ⟨by rw [pk_un (by omega), pk_un (by omega)]; exact hS.1, fun i hi => ⟨by rw [pk_un (by omega), pk_un (by omega)]; exact (hS.2 i hi).1, fun x hx => ?_⟩⟩
  unfold uwt
  by_cases h4 : i = k ∧ x = v
  · obtain ⟨rfl, rfl⟩ := h4
    rw [pk_un (show ¬ 16 + 13 * i + x = 22 + 13 * i + x by omega), pk_us, pk_us, if_pos ⟨rfl, rfl⟩, if_pos ⟨rfl, rfl⟩]
    exact ⟨rfl, rfl⟩
  · rw [pk_un (by omega), pk_un (by omega), pk_un (by omega), pk_un (by omega), if_neg h4, if_neg h4]
    exact (hS.2 i hi).2 x hx
/-- the bound's sums -/
def vld (n E : Nat) (tg : Nat → Nat) (wt : Nat → Nat → Nat) (pr : Nat → Nat → Option Nat) (t k : Nat) : Bool := decide (tg k = t) && (flt n E tg wt pr k).isNone
def vsm (n E sc : Nat) (tg : Nat → Nat) (wt : Nat → Nat → Nat) (pr : Nat → Nat → Option Nat) (t v : Nat) : Nat := sm (fun k => if vld n E tg wt pr t k then wt k v else 0) sc
theorem pI_m1 {o : Option Nat} (h : ∀ q, o = some q → q < 2 ^ 31) : pI o = -1 ↔ o.isNone = true := by
  cases o with
  | none => exact ⟨fun _ => rfl, fun _ => rfl⟩
  | some q => exact ⟨fun h1 => absurd h1 (nI_m1 (h q rfl)), fun h1 => by cases h1⟩
theorem flt_m1 (hn : n ≤ 6) {k : Nat} : pI (flt n E tg wt pr k) = -1 ↔ (flt n E tg wt pr k).isNone = true :=
  pI_m1 fun q hq => by have := flt_lt hq; omega
def vms (n E : Nat) (tg : Nat → Nat) (wt : Nat → Nat → Nat) (pr : Nat → Nat → Option Nat) (t m : Nat) : Nat := om (fun k => if vld n E tg wt pr t k then 1 <<< k else 0) m
theorem vms_lt (t : Nat) : ∀ m, m ≤ 6 → vms n E tg wt pr t m < 64 := by
  intro m hm
  show om _ m < 2 ^ 6
  apply om_lt
  intro i hi
  split
  · exact one_lt (by omega)
  · decide
theorem vms_bit {t m k : Nat} : (vms n E tg wt pr t m).testBit k = true ↔ k < m ∧ vld n E tg wt pr t k = true := by
  unfold vms
  rw [om_bit]
  constructor
  · rintro ⟨i, h1, h2⟩
    split at h2
    · next h3 => rw [one_shl_bit, decide_eq_true_eq] at h2; subst h2; exact ⟨h1, h3⟩
    · simp at h2
  · rintro ⟨h1, h2⟩
    exact ⟨k, h1, by rw [if_pos h2, one_shl_bit]; simp⟩
end SU
