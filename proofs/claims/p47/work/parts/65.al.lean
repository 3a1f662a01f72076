/-! ===== ArrayList, over the single cells ===== -/
/-- a list of references: at st, its row at es; w says whose each place is -/
def AL (w : Nat → Nat) (m : Nat → Option AC) (o st : Nat) (l : List Nat) : Prop := ∃ (mc : Int32) (es : Nat), m st = some (.inr (10, [.int mc, .ref es, .int (nI l.length)])) ∧ w st = o ∧ l.length ≤ 10 ∧ ((es = am_SB + 2 ∧ l = []) ∨ (w es = o ∧ ∃ f, m es = some (.inl (5, 10, .inr (.inr (.inr (.inr f))))) ∧ ∀ i, i < l.length → f i = l[i]?))
/-- kinds of cells -/
def kd : AC → Nat
  | .inl (t, n, _) => if t = 0 ∧ n = 13 then 13 else t
  | .inr (ci, _) => 20 + ci
/-- the owner's places of these kinds stay as they are -/
def Kq (K : Nat → Prop) (w w' : Nat → Nat) (m m' : Nat → Option AC) (a : Nat) : Prop := ∀ b c, m b = some c → w b = a → K (kd c) → m' b = some c ∧ w' b = a
theorem Kq.tr {K : Nat → Prop} {u v w : Nat → Nat} {m m' m'' : Nat → Option AC} {a : Nat} (h : Kq K u v m m' a) (k : Kq K v w m' m'' a) : Kq K u w m m'' a := fun b c h1 h2 h3 => by
  obtain ⟨a1, a2⟩ := h b c h1 h2 h3
  exact k b c a1 a2 h3
theorem Kq.up {K L : Nat → Prop} {w w' : Nat → Nat} {m m' : Nat → Option AC} {a : Nat} (h : Kq K w w' m m' a) (hL : ∀ k, L k → K k) : Kq L w w' m m' a := fun b c h1 h2 h3 => h b c h1 h2 (hL _ h3)
theorem Wr.kq {w : Nat → Nat} {W W' : Wd} {q a : Nat} {c d : AC} (h : Wr W W' q c) (hq : W.cl q = some d) : Kq (fun k => ¬ k = kd d) w w W.cl W'.cl a := fun b e h1 h2 h3 => by
  refine ⟨?_, h2⟩
  rw [h.1, upm_n (fun z => by subst z; rw [hq] at h1; cases h1; exact h3 rfl)]
  exact h1
theorem Nw.kq {K : Nat → Prop} {w : Nat → Nat} {W W' : Wd} {L : List AC} {n a : Nat} (h : Nw W W' L n) : Kq K w w W.cl W'.cl a := fun b e h1 h2 _ => ⟨h.old h1, h2⟩
theorem AL.ext {K : Nat → Prop} {w w' : Nat → Nat} {m m' : Nat → Option AC} {o st : Nat} {l : List Nat} (h : AL w m o st l) (k : Kq K w w' m m' o) (k1 : K 30) (k2 : K 5) : AL w' m' o st l := by
  obtain ⟨mc, es, h1, h2, h3, h4⟩ := h
  obtain ⟨k3, k4⟩ := k st _ h1 h2 k1
  refine ⟨mc, es, k3, k4, h3, ?_⟩
  rcases h4 with h4 | ⟨h5, f, h6, h7⟩
  · exact .inl h4
  · obtain ⟨k5, k6⟩ := k es _ h6 h5 k2
    exact .inr ⟨k6, f, k5, h7⟩
theorem nI_pred' {n : Nat} (h : 1 ≤ n) : nI n - 1 = nI (n - 1) := pk_sub h
section LIST
variable {w : Nat → Nat} {W : Wd} {o st : Nat} {l : List Nat}
theorem alSize (h : AL w W.cl o st l) : F_349 W st = some (nI l.length) := by
  obtain ⟨mc, es, h1, -⟩ := h
  unfold F_349
  rw [gI_ h1 rfl, Option.bind_some]
theorem alEmpty (h : AL w W.cl o st l) : F_350 W st = some (if l.length = 0 then 1 else 0) := by
  obtain ⟨mc, es, h1, h2, h3, -⟩ := h
  unfold F_350
  rw [gI_ h1 rfl, Option.bind_some]
  by_cases h0 : l.length = 0
  · rw [if_neg (by rw [h0]; decide), if_pos h0]
    rfl
  · rw [if_pos (nI_ne0 (by omega) (by omega)), if_neg h0]
    rfl
theorem chk_ {i n : Nat} (hi : i < n) (hn : n < 2 ^ 31) : F_363 W (nI i) (nI n) = some (nI i) := by
  unfold F_363 F_262
  rw [if_neg (show ¬ nI i < 0 from nI_nlt (b := 0) (Nat.zero_le _) (by omega)), if_pos (nI_lt hi hn), Option.bind_some]
theorem alGet (h : AL w W.cl o st l) {i a : Nat} (hi : l[i]? = some a) (ha : a < am_SB) : F_352 W st (nI i) = some a := by
  obtain ⟨mc, es, h1, h2, h3, h4⟩ := h
  have hl := (List.getElem?_eq_some_iff.mp hi).1
  rcases h4 with ⟨-, rfl⟩ | ⟨h5, f, h6, h7⟩
  · simp at hi
  · unfold F_352 F_351
    rw [gI_ h1 rfl, Option.bind_some, chk_ hl (by omega), Option.bind_some, rc_ h1, Option.bind_some, gR_ h1 rfl, Option.bind_some, aR_ h6 (by decide) (by omega) (by decide) (by rw [h7 i hl, hi]), Option.bind_some, rp_ ha, Option.bind_some, Option.bind_some, rp_ ha, Option.bind_some]
/-- one more -/
theorem alAdd (h : AL w W.cl o st l) (hl : l.length < 10) {a : Nat} {c : AC} (ha : W.cl a = some c) (hc : am_mayb 5 c = true) (ht : W.top < 880000) :
    ∃ W' w', F_354 W st a = some (1, W') ∧ AL w' W'.cl o st (l ++ [a]) ∧ (∀ b, b < W.top → w' b = w b) ∧ (∀ b, b < W.top → ¬ w b = o → W'.cl b = W.cl b) ∧ Sm W W' ∧ Co 1 10 W W' ∧ (∀ b, b < W.top → ∀ d, W.cl b = some d → (∀ n f, ¬ d = .inl (5, n, .inr (.inr (.inr (.inr f))))) → ¬ b = st → W'.cl b = some d) ∧ W.top ≤ W'.top := by
  obtain ⟨mc, es, h1, h2, h3, h4⟩ := h
  obtain ⟨W1, e1, k1⟩ := pv_ (v := .int (mc + 1)) h1 ⟨show 0 < 3 by decide, rfl, rfl, nofun⟩
  have c1 : W1.cl st = some (.inr (10, [.int (mc + 1), .ref es, .int (nI l.length)])) := by rw [k1.1]; exact upm_s
  have r1 : ∀ b, ¬ b = st → W1.cl b = W.cl b := fun b hb => by rw [k1.1]; exact upm_n hb
  have hast : ¬ a = st ∨ a = st := (Classical.em _).symm
  have ta : ∃ c', W1.cl a = some c' ∧ am_mayb 5 c' = true := by
    rcases hast with q | q
    · exact ⟨c, by rw [r1 a q]; exact ha, hc⟩
    · subst q
      exact ⟨_, c1, rfl⟩
  obtain ⟨c', ta1, ta2⟩ := ta
  have hst := cl_lt h1
  have step : ∀ {X : Wd} {es' n : Nat} {f : Nat → Option Nat} {c2 : AC}, X.cl st = some (.inr (10, [.int (mc + 1), .ref es', .int (nI l.length)])) → X.cl es' = some (.inl (5, n, .inr (.inr (.inr (.inr f))))) → n = 10 → X.cl a = some c2 → am_mayb 5 c2 = true →
      ∃ Y Z, J_353_0_j11 X st a es' (nI l.length) = some Z ∧ Wr X Y es' (.inl (5, 10, .inr (.inr (.inr (.inr (va_up f l.length (some a))))))) ∧ Wr Y Z st (.inr (10, [.int (mc + 1), .ref es', .int (nI (l.length + 1))])) := by
    intro X es' n f c2 x1 x2 hn x3 x4
    subst hn
    obtain ⟨Y, e2, k2⟩ := sR_ (i := l.length) x2 x3 x4 hl (by decide)
    have y1 : Y.cl st = some (.inr (10, [.int (mc + 1), .ref es', .int (nI l.length)])) := by
      rw [k2.1, upm_n (cl_ne x1 x2 nofun)]
      exact x1
    obtain ⟨Z, e3, k3⟩ := pv_ (v := .int (nI (l.length + 1))) (i := 2) y1 ⟨show 2 < 3 by decide, rfl, rfl, nofun⟩
    refine ⟨Y, Z, ?_, k2, k3⟩
    unfold J_353_0_j11
    rw [e2, Option.bind_some, nI_1, e3, Option.bind_some]
  rcases h4 with ⟨rfl, rfl⟩ | ⟨h5, f, h6, h7⟩
  · -- the first one: a new row
    obtain ⟨W2, e2, k2⟩ := nQ_ (W := W1) (t := 5) (n := 10) (by decide) (by have := k1.2.2.2.2.2.2.2.2.2.1; omega)
    have t1 : W1.top = W.top := k1.2.2.2.2.2.2.2.2.2.1
    have c2 : W2.cl st = some (.inr (10, [.int (mc + 1), .ref (am_SB + 2), .int (nI 0)])) := k2.old c1
    obtain ⟨W3, e3, k3⟩ := pv_ (v := .ref W1.top) (i := 1) c2 ⟨show 1 < 3 by decide, rfl, rfl, fun q => by have q2 : W1.top = am_SB + 1 := Value.ref.inj q; have : am_SB = 1000000 := rfl; omega⟩
    have c3 : W3.cl st = some (.inr (10, [.int (mc + 1), .ref W1.top, .int (nI 0)])) := by rw [k3.1]; exact upm_s
    have d2 : W2.cl W1.top = some (.inl (5, 10, .inr (.inr (.inr (.inr (fun _ => none)))))) := by
      have := k2.new 0
      rw [Nat.add_zero] at this
      exact this
    have d3 : W3.cl W1.top = some (.inl (5, 10, .inr (.inr (.inr (.inr (fun _ => none)))))) := by rw [k3.1, upm_n (by omega)]; exact d2
    have a3 : ∃ c2, W3.cl a = some c2 ∧ am_mayb 5 c2 = true := by
      rcases hast with q | q
      · exact ⟨c', by rw [k3.1, upm_n q]; exact k2.old ta1, ta2⟩
      · subst q; exact ⟨_, c3, rfl⟩
    obtain ⟨ca, a31, a32⟩ := a3
    obtain ⟨Y, Z, e4, k4, k5⟩ := step c3 d3 rfl a31 a32
    have zst : Z.cl st = some (.inr (10, [.int (mc + 1), .ref W1.top, .int (nI (0 + 1))])) := by rw [k5.1]; exact upm_s
    have zes : Z.cl W1.top = some (.inl (5, 10, .inr (.inr (.inr (.inr (va_up (fun _ => none) 0 (some a))))))) := by rw [k5.1, upm_n (by omega), k4.1]; exact upm_s
    have far : ∀ b, b < W.top → ¬ b = st → Z.cl b = W.cl b := fun b hb hne => by
      rw [k5.1, upm_n hne, k4.1, upm_n (by omega), k3.1, upm_n hne, k2.1, if_neg (by omega), r1 b hne]
    refine ⟨Z, fun b => if b = W.top then o else w b, ?_, ⟨mc + 1, W1.top, zst, (if_neg (show ¬ st = W.top by omega)).trans h2, by show 1 ≤ 10; decide, .inr ⟨by rw [t1]; exact if_pos rfl, _, zes, fun i hi => ?_⟩⟩, fun b hb => if_neg (by omega), fun b hb hno => far b hb (fun q => hno (by rw [q]; exact h2)), ?_, ?_, fun b hb d hd _ hne => by rw [far b hb hne]; exact hd, ?_⟩
    · have eln : W1.ln (am_SB + 2) = some 0 := by
        unfold Wd.ln
        rw [if_neg (Nat.not_lt.mpr (Nat.le_add_right _ 2)), if_neg (show ¬ am_SB + 2 = am_SB by generalize am_SB = s; omega), if_pos rfl]
      have lt1 : W1.top < am_SB := by have : am_SB = 1000000 := rfl; omega
      have g0 : W.gI st 10 0 = some mc := gI_ h1 rfl
      have g1 : W1.gR st 10 1 = some (am_SB + 2) := gR_ c1 rfl
      have g2 : W1.gI st 10 2 = some 0 := gI_ c1 rfl
      have g3 : W1.rc st 10 = some () := rc_ c1
      have hq : (if am_SB + 2 = am_SB + 2 ∧ ¬ am_SB + 2 = am_SB + 1 then some () else none) = some () := if_pos ⟨rfl, show ¬ am_SB + 2 = am_SB + 1 by generalize am_SB = s; omega⟩
      have e2' : W1.nQ 5 (imx 10 (0 + 1)) = some (W1.top, W2) := e2
      have f47 : F_347 W1 st (0 + 1) = some (W1.top, W3) := by
        unfold F_347
        rw [g1, Option.bind_some, eln, Option.bind_some, if_neg (show ¬ (0 : Int32) < 0 by decide), Option.bind_some, hq, Option.bind_some, e2', Option.bind_some]
        dsimp only
        rw [e3, Option.bind_some, rp_ lt1, Option.bind_some]
      have f48 : F_348 W1 st = some (W1.top, W3) := by
        unfold F_348
        rw [g2, Option.bind_some, g3, Option.bind_some, f47, Option.bind_some]
        dsimp only
        rw [rp_ lt1, Option.bind_some]
      have f53 : F_353 W1 st a (am_SB + 2) 0 = some Z := by
        unfold F_353
        rw [eln, Option.bind_some, if_neg (fun q => q rfl), g3, Option.bind_some, f48, Option.bind_some]
        exact e4
      unfold F_354
      rw [g0, Option.bind_some, e1, Option.bind_some, g1, Option.bind_some, g2, Option.bind_some, g3, Option.bind_some, f53, Option.bind_some]
    · obtain rfl : i = 0 := by change i < 1 at hi; omega
      exact if_pos rfl
    · exact k1.sm.tr (k2.2.1.tr (k3.sm.tr (k4.sm.tr k5.sm)))
    · exact (k1.co.tr (k2.co.tr (k3.co.tr (k4.co.tr k5.co)))).up (by decide) (by decide)
    · have u2 : W2.top = W1.top + 1 := k2.2.2.1
      have u3 : W3.top = W2.top := k3.2.2.2.2.2.2.2.2.2.1
      have u4 : Y.top = W3.top := k4.2.2.2.2.2.2.2.2.2.1
      have u5 : Z.top = Y.top := k5.2.2.2.2.2.2.2.2.2.1
      omega
  · have hes : ¬ es = st := fun q => by subst q; rw [h1] at h6; cases h6
    have c6 : W1.cl es = some (.inl (5, 10, .inr (.inr (.inr (.inr f))))) := by rw [r1 es hes]; exact h6
    obtain ⟨Y, Z, e4, k4, k5⟩ := step c1 c6 rfl ta1 ta2
    have zst : Z.cl st = some (.inr (10, [.int (mc + 1), .ref es, .int (nI (l.length + 1))])) := by rw [k5.1]; exact upm_s
    have zes : Z.cl es = some (.inl (5, 10, .inr (.inr (.inr (.inr (va_up f l.length (some a))))))) := by rw [k5.1, upm_n hes, k4.1]; exact upm_s
    have far : ∀ b, ¬ b = st → ¬ b = es → Z.cl b = W.cl b := fun b hne hn2 => by
      rw [k5.1, upm_n hne, k4.1, upm_n hn2, r1 b hne]
    have hlen : (l ++ [a]).length = l.length + 1 := by rw [List.length_append]; rfl
    refine ⟨Z, w, ?_, ⟨mc + 1, es, by rw [hlen]; exact zst, h2, by rw [hlen]; omega, .inr ⟨h5, _, zes, fun i hi => ?_⟩⟩, fun b _ => rfl, fun b hb hno => far b (fun q => hno (by rw [q]; exact h2)) (fun q => hno (by rw [q]; exact h5)), ?_, ?_, fun b hb d hd hn hne => ?_, ?_⟩
    · unfold F_354 F_353
      rw [gI_ h1 rfl, Option.bind_some, e1, Option.bind_some, gR_ c1 rfl, Option.bind_some, gI_ c1 rfl, Option.bind_some, rc_ c1, Option.bind_some, ln_ c6 (by decide), Option.bind_some, if_pos (show ¬ nI l.length = nI 10 by rw [nI_eq (by omega) (by decide)]; omega), e4]
      rfl
    · rw [hlen] at hi
      unfold va_up
      by_cases q : i = l.length
      · subst q
        rw [if_pos rfl, List.getElem?_append_right (Nat.le_refl _), Nat.sub_self]
        rfl
      · rw [if_neg q, h7 i (by omega), List.getElem?_append_left (by omega)]
    · exact k1.sm.tr (k4.sm.tr k5.sm)
    · exact (k1.co.tr (k4.co.tr k5.co)).up (by decide) (by decide)
    · rw [far b hne (fun q => by subst q; rw [h6] at hd; cases hd; exact hn _ _ rfl)]
      exact hd
    · have u1 : W1.top = W.top := k1.2.2.2.2.2.2.2.2.2.1
      have u4 : Y.top = W1.top := k4.2.2.2.2.2.2.2.2.2.1
      have u5 : Z.top = Y.top := k5.2.2.2.2.2.2.2.2.2.1
      omega
theorem Wr.same {X Y Z : Wd} {a : Nat} {c d : AC} (h : Wr X Y a c) (k : Wr Y Z a d) : Wr X Z a d := by
  obtain ⟨h0, h1, h2, h3, h4, h5, h6, h7, h8, h9, h10, h11⟩ := h
  obtain ⟨k0, k1, k2, k3, k4, k5, k6, k7, k8, k9, k10, k11⟩ := k
  refine ⟨?_, k1.trans h1, k2.trans h2, k3.trans h3, k4.trans h4, k5.trans h5, k6.trans h6, fun b => (k7 b).trans (h7 b), fun b => (k8 b).trans (h8 b), k9.trans h9, k10.trans h10, k11.trans h11⟩
  rw [k0, h0]
  funext b
  unfold upm
  split <;> rfl
/-- one less -/
theorem alRemove (h : AL w W.cl o st l) {i a : Nat} (hi : l[i]? = some a) (ha : a < am_SB) :
    ∃ W', F_355 W st (nI i) = some (a, W') ∧ AL w W'.cl o st (l.eraseIdx i) ∧ (∀ b, ¬ w b = o → W'.cl b = W.cl b) ∧ Sm W W' ∧ Co 0 0 W W' ∧ (∀ b d, W.cl b = some d → (∀ n f, ¬ d = .inl (5, n, .inr (.inr (.inr (.inr f))))) → ¬ b = st → W'.cl b = some d) := by
  obtain ⟨mc, es, h1, h2, h3, h4⟩ := h
  have hl := (List.getElem?_eq_some_iff.mp hi).1
  rcases h4 with ⟨-, rfl⟩ | ⟨h5, f, h6, h7⟩
  · simp at hi
  have hes : ¬ es = st := fun q => by subst q; rw [h1] at h6; cases h6
  have hle : (l.eraseIdx i).length = l.length - 1 := List.length_eraseIdx_of_lt hl
  obtain ⟨W1, e1, k1⟩ := pv_ (v := .int (mc + 1)) h1 ⟨show 0 < 3 by decide, rfl, rfl, nofun⟩
  have c1 : W1.cl st = some (.inr (10, [.int (mc + 1), .ref es, .int (nI l.length)])) := by rw [k1.1]; exact upm_s
  have c6 : W1.cl es = some (.inl (5, 10, .inr (.inr (.inr (.inr f))))) := by rw [k1.1, upm_n hes]; exact h6
  have tail : ∀ {X : Wd} {g : Nat → Option Nat}, X.cl st = some (.inr (10, [.int (mc + 1), .ref es, .int (nI l.length)])) → X.cl es = some (.inl (5, 10, .inr (.inr (.inr (.inr g))))) →
      ∃ Y Z, J_356_0_j34 X st es (nI (l.length - 1)) = some Z ∧ Wr X Y st (.inr (10, [.int (mc + 1), .ref es, .int (nI (l.length - 1))])) ∧ Wr Y Z es (.inl (5, 10, .inr (.inr (.inr (.inr (va_up g (l.length - 1) none)))))) := by
    intro X g x1 x2
    obtain ⟨Y, e2, k2⟩ := pv_ (v := .int (nI (l.length - 1))) (i := 2) x1 ⟨show 2 < 3 by decide, rfl, rfl, nofun⟩
    have y2 : Y.cl es = some (.inl (5, 10, .inr (.inr (.inr (.inr g))))) := by rw [k2.1, upm_n hes]; exact x2
    obtain ⟨Z, e3, k3⟩ := sN_ (i := l.length - 1) y2 (by omega) (by decide)
    refine ⟨Y, Z, ?_, k2, k3⟩
    unfold J_356_0_j34
    rw [e2, Option.bind_some, e3, Option.bind_some]
  have fin : ∀ {X : Wd} {g : Nat → Option Nat}, X.cl st = some (.inr (10, [.int (mc + 1), .ref es, .int (nI l.length)])) → X.cl es = some (.inl (5, 10, .inr (.inr (.inr (.inr g))))) → (∀ b, ¬ b = st → ¬ b = es → X.cl b = W.cl b) → Sm W X → Co 0 0 W X → (∀ j, j < l.length - 1 → g j = (l.eraseIdx i)[j]?) →
      ∃ Z, J_356_0_j34 X st es (nI (l.length - 1)) = some Z ∧ AL w Z.cl o st (l.eraseIdx i) ∧ (∀ b, ¬ w b = o → Z.cl b = W.cl b) ∧ Sm W Z ∧ Co 0 0 W Z ∧ (∀ b d, W.cl b = some d → (∀ n f, ¬ d = .inl (5, n, .inr (.inr (.inr (.inr f))))) → ¬ b = st → Z.cl b = some d) := by
    intro X g x1 x2 x3 x4 x5 x6
    obtain ⟨Y, Z, e, k2, k3⟩ := tail x1 x2
    have far : ∀ b, ¬ b = st → ¬ b = es → Z.cl b = W.cl b := fun b hb hb2 => by rw [k3.1, upm_n hb2, k2.1, upm_n hb, x3 b hb hb2]
    refine ⟨Z, e, ⟨mc + 1, es, ?_, h2, by omega, .inr ⟨h5, _, by rw [k3.1]; exact upm_s, fun j hj => ?_⟩⟩, fun b hb => far b (fun q => hb (by rw [q]; exact h2)) (fun q => hb (by rw [q]; exact h5)), x4.tr (k2.sm.tr k3.sm), (x5.tr (k2.co.tr k3.co)).up (by decide) (by decide), fun b d hd hn hne => ?_⟩
    · rw [k3.1, upm_n (fun q => hes q.symm), k2.1, hle]
      exact upm_s
    · rw [hle] at hj
      unfold va_up
      rw [if_neg (by omega)]
      exact x6 j hj
    · rw [far b hne (fun q => by subst q; rw [h6] at hd; cases hd; exact hn _ _ rfl)]
      exact hd
  have r1 : ∀ b, ¬ b = st → W1.cl b = W.cl b := fun b hb => by rw [k1.1]; exact upm_n hb
  have head : ∀ {Z : Wd}, (if nI (l.length - 1) ≤ nI i then J_356_0_j34 W1 st es (nI (l.length - 1)) else (W1.cp es (nI i + 1) es (nI i) (nI (l.length - 1) - nI i)).bind fun B12 => J_356_0_j34 B12 st es (nI (l.length - 1))) = some Z → F_355 W st (nI i) = some (a, Z) := by
    intro Z hZ
    unfold F_355 F_356
    rw [gI_ h1 rfl, Option.bind_some, chk_ hl (by omega), Option.bind_some, gR_ h1 rfl, Option.bind_some, aR_ h6 (by decide) (by omega) (by decide) (by rw [h7 i hl, hi]), Option.bind_some, rc_ h1, Option.bind_some, gI_ h1 rfl, Option.bind_some, e1, Option.bind_some, gI_ c1 rfl, Option.bind_some, nI_pred' (by omega), hZ, Option.bind_some, rp_ ha, Option.bind_some]
  by_cases hlast : l.length - 1 ≤ i
  · obtain ⟨Z, e, r⟩ := fin c1 c6 (fun b hb _ => r1 b hb) k1.sm k1.co (fun j hj => by rw [List.getElem?_eraseIdx, if_pos (by omega)]; exact h7 j (by omega))
    exact ⟨Z, head (by rw [if_pos (nI_le hlast (by omega))]; exact e), r⟩
  · obtain ⟨X, e2, k2⟩ := cpo_ (x := i + 1) (y := i) (z := l.length - 1 - i) c6 c6 (by omega) (by omega) (by decide) (by decide)
    have x1 : X.cl st = some (.inr (10, [.int (mc + 1), .ref es, .int (nI l.length)])) := by rw [k2.1, upm_n (fun q => hes q.symm)]; exact c1
    have x2 : X.cl es = some (.inl (5, 10, .inr (.inr (.inr (.inr (va_cpy f f (i + 1) i (l.length - 1 - i))))))) := by rw [k2.1]; exact upm_s
    obtain ⟨Z, e, r⟩ := fin x1 x2 (fun b hb hb2 => by rw [k2.1, upm_n hb2, r1 b hb]) (k1.sm.tr k2.sm) ((k1.co.tr k2.co).up (by decide) (by decide)) (fun j hj => by
      rw [List.getElem?_eraseIdx]
      unfold va_cpy
      by_cases q : i ≤ j
      · rw [if_pos ⟨q, by omega⟩, if_neg (by omega), show i + 1 + (j - i) = j + 1 by omega, h7 (j + 1) (by omega)]
      · rw [if_neg (by omega), if_pos (by omega), h7 j (by omega)])
    refine ⟨Z, head ?_, r⟩
    rw [if_neg (nI_ge (by omega) (by omega)), nI_1, pk_sub (by omega), e2, Option.bind_some]
    exact e
end LIST
