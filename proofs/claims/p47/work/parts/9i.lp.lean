/-! ===== THE LAW'S LOOP: what holds between two calls ===== -/
/-- the history list at hl, the saved yard, the law's reason at y -/
def LR (w : Nat → Nat) (m : Nat → Option AC) (hl y g : Nat) (hs : List Nat) (H : List Ps) (sv : Option Nat) (S : Option Ps) (r : Int32) : Prop := AL w m hl hl hs ∧ hs.length = H.length ∧ hs.Nodup ∧ ¬ g ∈ hs ∧ (∀ (k : Nat) (R : Ps), H[k]? = some R → ∃ h, hs[k]? = some h ∧ Yd w m h R) ∧ (match sv, S with | none, none => True | some s, some R => Yd w m s R ∧ ¬ s = g ∧ ¬ s ∈ hs | _, _ => False) ∧ m y = some (.inr (6, [.int r])) ∧ w y = y
/-- sums of pebbles -/
def LB (b : Nat) (Q : Ps) (H : List Ps) (S : Option Ps) : Prop := sm Q.pl Q.n ≤ b ∧ (∀ (k : Nat) (R : Ps), H[k]? = some R → sm R.pl R.n ≤ b) ∧ ∀ R : Ps, S = some R → sm R.pl R.n ≤ b
theorem LB.up {b c : Nat} {Q : Ps} {H : List Ps} {S : Option Ps} (h : LB b Q H S) (k : b ≤ c) : LB c Q H S := ⟨Nat.le_trans h.1 k, fun i R q => Nat.le_trans (h.2.1 i R q) k, fun R q => Nat.le_trans (h.2.2 R q) k⟩
def LJ (hl y : Nat) (W0 : Wd) (c k b g : Nat) (sv : Option Nat) (B : Wd) : Prop := ∃ w Q H S r hs, Yd w B.cl g Q ∧ LR w B.cl hl y g hs H sv S r ∧ CI Q H S r B ∧ IT B ∧ Co c k W0 B ∧ LB b Q H S
section LOOP
variable {w w' : Nat → Nat} {m m' : Nat → Option AC} {hl y g : Nat} {hs : List Nat} {H : List Ps} {sv : Option Nat} {S : Option Ps} {r : Int32} {Q : Ps} {B : Wd}
theorem CI.vq (h : CI Q H S r B) : (∀ (k : Nat) (R : Ps), H[k]? = some R → VQ R) ∧ ∀ R : Ps, S = some R → VQ R := by
  obtain ⟨-, -, a3, -, ⟨o, -, -, -, -, -, -, h7⟩, -⟩ := h
  refine ⟨fun k R q => (h7 k R q).1, fun R q => ?_⟩
  subst q
  exact a3.2.2
theorem Yd.ne {R : Ps} {h : Nat} {v : AC} {b : Nat} (hy : Yd w m h R) (hb : m b = some v) (hv : ∀ fs, ¬ v = .inr (7, fs)) : ¬ h = b := fun z => by
  obtain ⟨e, p, st, kn, ff, kf, h1, -⟩ := hy
  subst z
  rw [h1] at hb
  cases hb
  exact hv _ rfl
theorem LR.lt (h : LR w B.cl hl y g hs H sv S r) {x : Nat} (hx : x ∈ hs) : x < B.top := by
  obtain ⟨h1, h2, h3, h4, h5, -⟩ := h
  obtain ⟨i, hi, e⟩ := List.getElem_of_mem hx
  obtain ⟨R, hR⟩ : ∃ R, H[i]? = some R := ⟨_, List.getElem?_eq_getElem (by omega)⟩
  obtain ⟨z, z1, z2⟩ := h5 i R hR
  rw [List.getElem?_eq_getElem hi, e] at z1
  cases z1
  obtain ⟨_, _, _, _, _, _, q, _⟩ := z2
  exact cl_lt q
theorem LR.svlt (h : LR w B.cl hl y g hs H sv S r) {s : Nat} (hx : sv = some s) : s < B.top := by
  obtain ⟨-, -, -, -, -, h6, -⟩ := h
  subst hx
  cases S with
  | none => exact absurd h6 id
  | some R =>
    obtain ⟨⟨_, _, _, _, _, _, q, _⟩, _⟩ := h6
    exact cl_lt q
/-- positions that stand -/
def LV (H : List Ps) (S : Option Ps) : Prop := (∀ (k : Nat) (R : Ps), H[k]? = some R → VQ R) ∧ ∀ R : Ps, S = some R → VQ R
/-- others' things stay, whatever becomes of g -/
theorem LR.ext {g' : Nat} {r' : Int32} (h : LR w B.cl hl y g hs H sv S r) (hc : LV H S) (hk : ∀ o, ¬ o = g → ¬ o = y → o < B.top → Kq (fun _ => True) w w' B.cl m' o) (hlg : ¬ hl = g) (hy : m' y = some (.inr (6, [.int r']))) (hw : w' y = y) (hg : ¬ g' ∈ hs) (hs' : ∀ s, sv = some s → ¬ s = g') : LR w' m' hl y g' hs H sv S r' := by
  have hlt := fun x hx => h.lt (x := x) hx
  have hsv := fun s hs => h.svlt (s := s) hs
  obtain ⟨h1, h2, h3, h4, h5, h6, h7, h8⟩ := h
  obtain ⟨v1, v2⟩ := hc
  have hly : ¬ hl = y := fun z => by
    obtain ⟨mc, es, q, -⟩ := h1
    rw [z, h7] at q
    cases q
  have hlT : hl < B.top := by
    obtain ⟨mc, es, q, -⟩ := h1
    exact cl_lt q
  refine ⟨h1.ext (hk hl hlg hly hlT) trivial trivial, h2, h3, hg, fun k R q => ?_, ?_, hy, hw⟩
  · obtain ⟨x, x1, x2⟩ := h5 k R q
    have xm := List.mem_of_getElem? x1
    have xg : ¬ x = g := fun z => h4 (by rw [← z]; exact xm)
    have xy : ¬ x = y := x2.ne h7 (fun fs z => by cases z)
    exact ⟨x, x1, x2.ext (hk x xg xy (hlt x xm)) (v1 k R q).1.2.1⟩
  · cases sv with
    | none =>
      cases S with
      | none => exact trivial
      | some R => exact absurd h6 id
    | some s =>
      cases S with
      | none => exact absurd h6 id
      | some R =>
        obtain ⟨x1, x2, x3⟩ := h6
        have xy : ¬ s = y := x1.ne h7 (fun fs z => by cases z)
        exact ⟨x1.ext (hk s x2 xy (hsv s rfl)) (v2 R rfl).1.2.1, hs' s rfl, x3⟩
theorem LR.hlg (h : LR w m hl y g hs H sv S r) (hy : Yd w m g Q) : ¬ hl = g := fun z => by
  obtain ⟨⟨mc, es, q, -⟩, -⟩ := h
  exact hy.ne q (fun fs z => by cases z) z.symm
theorem LR.yg (h : LR w m hl y g hs H sv S r) (hy : Yd w m g Q) : ¬ g = y := hy.ne h.2.2.2.2.2.2.1 (fun fs z => by cases z)
theorem Co.top0 {c k : Nat} {W0 B : Wd} (h : Co c k W0 B) : B.top ≤ W0.top + c := by
  have := h.1
  have := h.2.2
  omega
/-- the comparison at a call's end -/
theorem l408 {L : Nat} {xs : Nat → Int32} {W0 : Wd} {c k b i : Nat} (h : LJ hl y W0 c k b g sv B) (hW : W0.top + c < 800000) : ∃ B', J_389_133_j408 L xs B g hl sv y (nI i) = some (.inl (g, sv, nI (i + 1), B')) ∧ LJ hl y W0 (c + 8) (k + 48) b g sv B' := by
  obtain ⟨w, Q, H, S, r, hs, h1, h2, h3, h4, h5, h6⟩ := h
  have ht := h5.top0
  obtain ⟨X, w1, e1, y1, c1, f1⟩ := yIsAs h1 h3 (by omega)
  have hyT := cl_lt h2.2.2.2.2.2.2.1
  have hyg := h2.yg h1
  have why : X.cl y = some (.inr (6, [.int r])) := by rw [f1.2.1 y hyT (by rw [h2.2.2.2.2.2.2.2]; exact fun z => hyg z.symm)]; exact h2.2.2.2.2.2.2.1
  have r1 : LR w1 X.cl hl y g hs H sv S r := h2.ext h3.vq (fun o ho _ _ => f1.kq ho) (h2.hlg h1) why ((f1.1 y hyT).trans h2.2.2.2.2.2.2.2) h2.2.2.2.1 (fun s hs' => by
    obtain ⟨-, -, -, -, -, q, -⟩ := h2
    subst hs'
    cases S with
    | none => exact absurd q id
    | some R => exact q.2.1)
  refine ⟨X, ?_, w1, Q, H, S, r, hs, y1, r1, c1, ?_, h5.tr f1.2.2.2.1, h6⟩
  · have rcl : X.rc hl 10 = some () := by obtain ⟨⟨_, _, q, _⟩, _⟩ := r1; exact rc_ q
    have sz : F_349 X hl = some (nI H.length) := by rw [alSize r1.1, r1.2.1]
    have gy : X.gI y 6 0 = some r := gI_ why rfl
    unfold J_389_133_j408
    rw [(yMany' h1).2, Option.bind_some, e1, Option.bind_some]
    dsimp only
    rw [if_neg (by decide), cUndoCount c1, Option.bind_some, rcl, Option.bind_some, sz, Option.bind_some, if_neg (fun z => z rfl), cReason c1, Option.bind_some, gy, Option.bind_some, if_pos rfl, nI_1]
  · obtain ⟨b', len, ht'⟩ := h4
    exact ⟨b', len, by rw [f1.2.2.1.2.2.2.2.1]; exact ht'⟩
end LOOP
