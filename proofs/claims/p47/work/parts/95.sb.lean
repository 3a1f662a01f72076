/-! ===== A TEXT BUILT: the builder ===== -/
/-- a is a text of these bytes, whose row can be copied -/
def TV (W : Wd) (a : Nat) (l : List Nat) : Prop := (∀ i, l.getD i 0 < 128) ∧ (∀ i, i < l.length → 0 < l.getD i 0) ∧ l.length ≤ 400 ∧ W.rs a = some () ∧ W.gI a 8 1 = some 0 ∧ ¬ a = am_SB + 1 ∧ ∃ va f, W.gR a 8 0 = some va ∧ (∀ i, i < l.length → f i = nI (l.getD i 0)) ∧ (W.cl va = some (.inl (2, l.length, .inl f)) ∨ (¬ va < am_SB ∧ ¬ va = am_SB ∧ ¬ va = am_SB + 2 ∧ am_oa va = some (l.length, f)))
theorem by_ok : ∀ c, c < 128 → (nI c).toInt8.toInt32 = nI c := by decide +kernel
theorem by_fits {x : Int32} (h : x.toInt8.toInt32 = x) : fits .byte (.int x) = true := by
  rw [← h]
  exact pk_fb x
section TVS
variable {W : Wd} {a : Nat} {l : List Nat}
theorem TV.to (h : TV W a l) : TO W a l := by
  obtain ⟨h1, h2, h3, h4, h5, -, va, f, h6, h7, h8⟩ := h
  refine ⟨h1, h2, h3, h4, h5, va, h6, ?_, fun i hi => ?_⟩
  · rcases h8 with h8 | ⟨q1, q2, q3, q4⟩
    · exact ln_ h8 (by decide)
    · unfold Wd.ln
      rw [if_neg q1, if_neg q2, if_neg q3, q4]
      rfl
  · rw [← h7 i hi]
    rcases h8 with h8 | ⟨q1, q2, q3, q4⟩
    · exact aB_ h8 (.inr rfl) hi (by omega)
    · unfold Wd.aB
      rw [if_neg q1, q4]
      dsimp only
      rw [ixn hi (by omega)]
      rfl
/-- its row copied behind what is there -/
theorem TV.cp (h : TV W a l) {d n2 y : Nat} {g : Nat → Int32} (hd : W.cl d = some (.inl (2, n2, .inl g))) (hy : y + l.length ≤ n2) (hn : n2 < 1000000) : ∃ va f W', W.gR a 8 0 = some va ∧ W.ln va = some (nI l.length) ∧ (∀ i, i < l.length → f i = nI (l.getD i 0)) ∧ W.cp va 0 d (nI y) (nI l.length) = some W' ∧ Wr W W' d (.inl (2, n2, .inl (va_cpy f g 0 y l.length))) := by
  have hto := h.to
  obtain ⟨h1, h2, h3, h4, h5, -, va, f, h6, h7, h8⟩ := h
  have hl : W.ln va = some (nI l.length) := by
    obtain ⟨-, -, -, -, -, va', k1, k2, -⟩ := hto
    rw [h6] at k1
    cases k1
    exact k2
  rcases h8 with h8 | ⟨q1, q2, q3, q4⟩
  · obtain ⟨W', e, k⟩ := cp_ (x := 0) (y := y) (z := l.length) h8 hd (.inr ⟨.inr rfl, fun j hj => by
      rw [h7 j hj]
      exact by_fits (by_ok _ (h1 j))⟩) (by omega) hy (by omega) (by omega)
    exact ⟨va, f, W', h6, hl, h7, e, k⟩
  · obtain ⟨y1, y2⟩ := nI_cl (n := y) (by omega)
    obtain ⟨z1', z2'⟩ := nI_cl (n := l.length) (by omega)
    refine ⟨va, f, _, h6, hl, h7, ?_, Wr.of hd _⟩
    unfold Wd.cp
    rw [if_neg q1, q4, hd]
    dsimp only
    rw [y1, y2, z1', z2']
    rw [if_pos ⟨rfl, Int.le_refl _, by omega, by omega, by show 0 + l.length ≤ l.length; omega, hy⟩]
    rfl
theorem tv_tx (W : Wd) {k : Nat} (hk : k < 27) : TV W (am_SB + 10 + 2 * k) (txl k) := by
  obtain ⟨h1, h2, h3, h4, h5, va, h6, -, -⟩ := to_tx W hk
  obtain ⟨t1, t2, t3, t4⟩ := txl_ok k hk
  have hB : am_isB (am_SB + 10 + 2 * k + 1) := ⟨by omega, by omega, by omega⟩
  have e2 : (am_SB + 10 + 2 * k + 1 - (am_SB + 10)) / 2 = k := by omega
  have oa : am_oa (am_SB + 10 + 2 * k + 1) = some ((am_tx k).length, fun j => (am_tx k).getD j 0) := by
    unfold am_oa
    rw [if_pos hB, e2]
  refine ⟨h1, h2, h3, h4, h5, by omega, am_SB + 10 + 2 * k + 1, fun j => (am_tx k).getD j 0, ?_, fun i hi => (t4 i hi).2, .inr ⟨by omega, by omega, by omega, by rw [t1]; exact oa⟩⟩
  unfold Wd.gR Wd.gv
  rw [if_neg (by omega), if_pos ⟨⟨by omega, by omega, by omega⟩, rfl⟩, if_pos rfl]
  rfl
end TVS
/-- the builder at sb, its bytes so far; all of it lies behind T0 -/
def SC (T0 : Nat) (m : Nat → Option AC) (sb : Nat) (l : List Nat) (va : Nat) (z : Int32) (cap : Nat) (f : Nat → Int32) : Prop := T0 ≤ sb ∧ m sb = some (.inr (9, [.ref va, .int 0, .int z, .int (nI l.length)])) ∧ T0 ≤ va ∧ m va = some (.inl (2, cap, .inl f)) ∧ l.length ≤ cap ∧ cap ≤ 802 ∧ (∀ i, i < l.length → f i = nI (l.getD i 0)) ∧ ∀ i, i < cap → (f i).toInt8.toInt32 = f i
def SS (T0 : Nat) (m : Nat → Option AC) (sb : Nat) (l : List Nat) : Prop := ∃ va z cap f, SC T0 m sb l va z cap f
/-- what a call on the builder leaves as it was -/
def Ap (T0 sb c k : Nat) (V V' : Wd) : Prop := (∀ b, b < T0 → V'.cl b = V.cl b) ∧ (∀ b d, V.cl b = some d → ¬ b = sb → ¬ kd d = 2 → V'.cl b = some d) ∧ Sm V V' ∧ Co c k V V' ∧ V.top ≤ V'.top
theorem Ap.rf (T0 sb : Nat) (V : Wd) : Ap T0 sb 0 0 V V := ⟨fun _ _ => rfl, fun _ _ h _ _ => h, Sm.rf V, Co.rf V, Nat.le_refl _⟩
theorem Ap.tr {T0 sb c k d j : Nat} {X Y Z : Wd} (h : Ap T0 sb c k X Y) (g : Ap T0 sb d j Y Z) : Ap T0 sb (c + d) (k + j) X Z := by
  obtain ⟨h1, h2, h3, h4, h5⟩ := h
  obtain ⟨g1, g2, g3, g4, g5⟩ := g
  exact ⟨fun b hb => (g1 b hb).trans (h1 b hb), fun b e hb hn hk => g2 b e (h2 b e hb hn hk) hn hk, h3.tr g3, h4.tr g4, by omega⟩
theorem Ap.up {T0 sb c k d j : Nat} {X Y : Wd} (h : Ap T0 sb c k X Y) (h1 : c ≤ d) (h2 : k ≤ j) : Ap T0 sb d j X Y := ⟨h.1, h.2.1, h.2.2.1, h.2.2.2.1.up h1 h2, h.2.2.2.2⟩
/-- a write to the builder or a row of bytes -/
theorem Wr.ap {T0 sb q : Nat} {c d : AC} {V V' : Wd} (h : Wr V V' q c) (hq : T0 ≤ q) (hd : V.cl q = some d) (hs : q = sb ∨ kd d = 2) : Ap T0 sb 0 0 V V' := by
  refine ⟨fun b hb => by rw [h.1, upm_n (by omega)], fun b e hb hn hk => ?_, h.sm, h.co, Nat.le_of_eq h.2.2.2.2.2.2.2.2.2.1.symm⟩
  rw [h.1, upm_n (fun z => by
    subst z
    rcases hs with z | z
    · exact hn z
    · rw [hd] at hb; cases hb; exact hk z)]
  exact hb
theorem Nw.ap {T0 sb n : Nat} {L : List AC} {V V' : Wd} (h : Nw V V' L n) (hT : T0 ≤ V.top) : Ap T0 sb L.length n V V' := ⟨fun b hb => by rw [h.1, if_neg (by omega)], fun b e hb _ _ => h.old hb, h.2.1, h.co, by have := h.2.2.1; omega⟩
theorem sub_le0 {m c : Nat} (hm : m < 2 ^ 30) (hc : c < 2 ^ 30) : nI m - nI c ≤ 0 ↔ m ≤ c := by
  rw [Int32.le_iff_toInt_le, pk_sub_toInt hm hc]
  show (m : Int) - c ≤ 0 ↔ m ≤ c
  omega
theorem shl0 (m : Nat) : nI m <<< (0 &&& 31) = nI m := shl_n m (k := 0) (by decide)
section SBB
variable {T0 sb va cap : Nat} {V : Wd} {l l2 : List Nat} {z : Int32} {f : Nat → Int32}
theorem sbEns (h : SC T0 V.cl sb l va z cap f) {m : Nat} (hm : m ≤ 400) (hT : T0 ≤ V.top) (ht : V.top < 880000) :
    ∃ V' va' cap' f', F_320 V sb (nI m) = some V' ∧ SC T0 V'.cl sb l va' z cap' f' ∧ m ≤ cap' ∧ Ap T0 sb 1 802 V V' ∧ (∀ b d, V.cl b = some d → ¬ b = sb → V'.cl b = some d) := by
  have sbv : am_SB = 1000000 := rfl
  obtain ⟨h1, h2, h3, h4, h5, h6, h7, h8⟩ := id h
  have g0 : V.gR sb 9 0 = some va := gR_ h2 rfl
  have g1 : V.gI sb 9 1 = some 0 := gI_ h2 rfl
  have gl : V.ln va = some (nI cap) := ln_ h4 (by decide)
  by_cases hle : m ≤ cap
  · refine ⟨V, va, cap, f, ?_, h, hle, (Ap.rf T0 sb V).up (by decide) (by decide), fun _ _ h _ => h⟩
    unfold F_320 J_320_0_j38
    rw [g0, Option.bind_some, gl, Option.bind_some, g1, Option.bind_some, shr0 (by omega), if_pos ((sub_le0 (by omega) (by omega)).2 hle)]
  · obtain ⟨c', hc'⟩ : ∃ c', c' = cap + max (m - cap) (cap + 2) := ⟨_, rfl⟩
    have hc1 : m ≤ c' ∧ c' ≤ 802 := by omega
    have e321 : F_321 V sb (nI m) = some (nI c') := by
      unfold F_321 F_364
      rw [g0, Option.bind_some, gl, Option.bind_some, g1, Option.bind_some, Option.bind_some, shl0, pk_sub (by omega), show (2 : Int32) <<< (0 &&& 31) = nI 2 by decide, nI_add, imx_n (by omega) (by omega), nI_add, ← hc', if_neg (nI_nle (by omega) (by omega)), if_neg (show ¬ (2147483639 : Int32) < nI c' from nI_nlt (a := 2147483639) (by omega) (by decide)), Option.bind_some, if_pos (show ¬ nI c' = 2147483647 from fun q => by have := (nI_eq (a := c') (b := 2147483647) (by omega) (by decide)).1 q; omega), Option.bind_some, shr0 (by omega)]
    obtain ⟨X, e2, k2⟩ := nA_ (W := V) (t := 2) (n := c') (by omega) (by omega)
    have x2 := k2.old h2
    have x4 := k2.old h4
    have n2 := k2.new 0
    rw [Nat.add_zero] at n2
    have n2 : X.cl V.top = some (.inl (2, c', .inl (fun _ => 0))) := n2
    obtain ⟨Y, e3, k3⟩ := cp_ (x := 0) (y := 0) (z := cap) x4 n2 (.inr ⟨.inr rfl, fun j hj => by_fits (h8 j hj)⟩) (by omega) (by omega) (by omega) (by omega)
    have hv1 := cl_lt h4
    have hs1 := cl_lt h2
    have y2 : Y.cl sb = some (.inr (9, [.ref va, .int 0, .int z, .int (nI l.length)])) := by rw [k3.1, upm_n (by omega)]; exact x2
    obtain ⟨Z, e4, k4⟩ := pv_ (v := .ref V.top) (i := 0) y2 ⟨show 0 < 4 by decide, rfl, rfl, am_ir (by omega)⟩
    refine ⟨Z, V.top, c', va_cpy f (fun _ => 0) 0 0 cap, ?_, ⟨h1, by rw [k4.1]; exact upm_s, hT, by rw [k4.1, upm_n (by omega), k3.1]; exact upm_s, by omega, hc1.2, fun i hi => ?_, fun i hi => ?_⟩, hc1.1, ?_, fun b d hb hne => by rw [k4.1, upm_n hne, k3.1, upm_n (by have := cl_lt hb; omega)]; exact k2.old hb⟩
    · have e359 : F_359 V va (nI c') = some (V.top, Y) := by
        have xl : X.ln va = some (nI cap) := ln_ x4 (by decide)
        have e3' : X.cp va 0 V.top 0 (nI cap) = some Y := e3
        unfold F_359
        rw [gl, Option.bind_some, if_pos (by rw [nI_eq (by omega) (by omega)]; omega), e2, Option.bind_some]
        dsimp only
        rw [xl, Option.bind_some, imn_n (by omega) (by omega), Nat.min_eq_left (by omega), e3', Option.bind_some, rp_ (by omega), Option.bind_some]
      unfold F_320 J_320_0_j38
      rw [g0, Option.bind_some, gl, Option.bind_some, g1, Option.bind_some, shr0 (by omega), if_neg (fun q => hle ((sub_le0 (by omega) (by omega)).1 q)), Option.bind_some, rc_ h2, Option.bind_some, e321, Option.bind_some, Option.bind_some, shl0, e359, Option.bind_some]
      dsimp only
      rw [e4, Option.bind_some]
    · rw [cpy_in (by omega)]
      exact h7 i hi
    · unfold va_cpy
      split
      · rw [Nat.sub_zero, Nat.zero_add]
        exact h8 i (by omega)
      · show (0 : Int32).toInt8.toInt32 = 0
        decide
    · have a2 := k2.ap (T0 := T0) (sb := sb) hT
      have a3 := k3.ap (T0 := T0) (sb := sb) hT n2 (.inr kd2)
      have a4 := k4.ap (T0 := T0) (sb := sb) h1 y2 (.inl rfl)
      exact (a2.tr (a3.tr a4)).up (by show 1 + (0 + 0) ≤ 1; decide) (by omega)
theorem getD_app {i : Nat} : (l ++ l2).getD i 0 = if i < l.length then l.getD i 0 else l2.getD (i - l.length) 0 := by
  rw [List.getD_eq_getElem?_getD, List.getD_eq_getElem?_getD, List.getD_eq_getElem?_getD]
  by_cases h : i < l.length
  · rw [if_pos h, List.getElem?_append_left h]
  · rw [if_neg h, List.getElem?_append_right (by omega)]
/-- a text appended -/
theorem sbStr (h : SS T0 V.cl sb l) {a : Nat} (hx : ∀ V' : Wd, (∀ b d, V.cl b = some d → ¬ b = sb → V'.cl b = some d) → TV V' a l2) (hlen : l.length + l2.length ≤ 400) (hT : T0 ≤ V.top) (ht : V.top < 880000) :
    ∃ V', F_333 V sb a = some (sb, V') ∧ SS T0 V'.cl sb (l ++ l2) ∧ Ap T0 sb 1 802 V V' := by
  obtain ⟨va, z, cap, f, h⟩ := h
  have hx0 := hx V fun _ _ h _ => h
  obtain ⟨h1, h2, -⟩ := id h
  have hsb : sb < am_SB := lt_cl h2
  obtain ⟨X, va', cap', f', e1, s1, hc, a1, a2'⟩ := sbEns h (m := l.length + l2.length) hlen hT ht
  obtain ⟨s2, s3, s4, s5, s6, s7, s8, s9⟩ := id s1
  have hx1 := hx X a2'
  obtain ⟨ta, tf, Y, t1, t2, t3, t4, t5⟩ := hx1.cp s5 hc (by omega)
  have hvs : ¬ sb = va' := fun q => by subst q; rw [s3] at s5; cases s5
  have y3 : Y.cl sb = some (.inr (9, [.ref va', .int 0, .int z, .int (nI l.length)])) := by rw [t5.1, upm_n hvs]; exact s3
  obtain ⟨Z, e4, k4⟩ := pv_ (v := .int (nI (l.length + l2.length))) (i := 3) y3 ⟨show 3 < 4 by decide, rfl, rfl, nofun⟩
  refine ⟨Z, ?_, ⟨va', z, cap', va_cpy tf f' 0 l.length l2.length, s2, by rw [k4.1, List.length_append]; exact upm_s, s4, by rw [k4.1, upm_n (fun q => hvs q.symm), t5.1]; exact upm_s, by rw [List.length_append]; exact hc, s7, fun i hi => ?_, fun i hi => ?_⟩, ?_⟩
  · have c3 : V.gI sb 9 3 = some (nI l.length) := gI_ h2 rfl
    have c3' : X.gI sb 9 3 = some (nI l.length) := gI_ s3 rfl
    have c1' : X.gI sb 9 1 = some 0 := gI_ s3 rfl
    have c0' : X.gR sb 9 0 = some va' := gR_ s3 rfl
    have c3y : Y.gI sb 9 3 = some (nI l.length) := gI_ y3 rfl
    have r1 : X.rs a = some () := hx1.2.2.2.1
    have e257 := f257 hx1.to
    have e324 : F_324 X sb a = some () := by
      unfold F_324 J_324_0_j21
      rw [if_neg (by decide), c1', Option.bind_some, r1, Option.bind_some, e257, Option.bind_some, if_pos rfl]
    have e329 : F_329 X a va' (nI l.length) 0 = some Y := by
      unfold F_329
      rw [r1, Option.bind_some, e257, Option.bind_some, if_neg (fun q => q rfl), t1, Option.bind_some, Option.bind_some, t2, Option.bind_some, shl0, t4, Option.bind_some]
    have e325 : F_325 X sb (nI l.length) a = some Y := by
      unfold F_325
      rw [rc_ s3, Option.bind_some, e324, Option.bind_some, c0', Option.bind_some, c1', Option.bind_some, r1, Option.bind_some, e329, Option.bind_some]
    have e400 : F_400 V sb a = some (sb, Z) := by
      unfold F_400
      rw [if_pos hx0.2.2.2.2.2.1, Option.bind_some, hx0.2.2.2.1, Option.bind_some, f255 hx0.to, Option.bind_some, c3, Option.bind_some, rc_ h2, Option.bind_some, nI_add, e1, Option.bind_some, c3', Option.bind_some, rc_ s3, Option.bind_some, e325, Option.bind_some, c3y, Option.bind_some, nI_add, e4, Option.bind_some, rp_ hsb, Option.bind_some]
    unfold F_333
    rw [rc_ h2, Option.bind_some, e400, Option.bind_some]
    dsimp only
    rw [rp_ hsb, Option.bind_some]
  · rw [List.length_append] at hi
    rw [getD_app]
    unfold va_cpy
    by_cases q : i < l.length
    · rw [if_neg (by omega), if_pos q]; exact s8 i q
    · rw [if_pos (by omega), if_neg q, Nat.zero_add, t3 _ (by omega)]
  · unfold va_cpy
    split
    · rw [Nat.zero_add, t3 _ (by omega)]
      exact by_ok _ (hx0.1 _)
    · exact s9 i hi
  · have a3 := t5.ap (T0 := T0) (sb := sb) s4 s5 (.inr kd2)
    have a4 := k4.ap (T0 := T0) (sb := sb) h1 y3 (.inl rfl)
    exact (a1.tr (a3.tr a4)).up (by decide) (by decide)
/-- a byte appended -/
theorem sbChr (h : SS T0 V.cl sb l) (hlen : l.length + 1 ≤ 400) (hT : T0 ≤ V.top) (ht : V.top < 880000) :
    ∃ V', F_334 V sb 32 = some (sb, V') ∧ SS T0 V'.cl sb (l ++ [32]) ∧ Ap T0 sb 1 802 V V' := by
  obtain ⟨va, z, cap, f, h⟩ := h
  obtain ⟨h1, h2, -⟩ := id h
  have hsb : sb < am_SB := lt_cl h2
  obtain ⟨X, va', cap', f', e1, s1, hc, a1, -⟩ := sbEns h (m := l.length + 1) hlen hT ht
  obtain ⟨s2, s3, s4, s5, s6, s7, s8, s9⟩ := id s1
  have hvs : ¬ sb = va' := fun q => by subst q; rw [s3] at s5; cases s5
  obtain ⟨Y, e3, k3⟩ := pv_ (v := .int (nI (l.length + 1))) (i := 3) s3 ⟨show 3 < 4 by decide, rfl, rfl, nofun⟩
  have y5 : Y.cl va' = some (.inl (2, cap', .inl f')) := by rw [k3.1, upm_n (fun q => hvs q.symm)]; exact s5
  have y3 : Y.cl sb = some (.inr (9, [.ref va', .int 0, .int z, .int (nI (l.length + 1))])) := by rw [k3.1]; exact upm_s
  obtain ⟨Z, e4, k4⟩ := sB_ (i := l.length) (y := 32) y5 (by omega) (by omega) (.inr ⟨rfl, by decide⟩)
  refine ⟨Z, ?_, ⟨va', z, cap', upd f' l.length 32, s2, by rw [k4.1, upm_n hvs, List.length_append]; exact y3, s4, by rw [k4.1]; exact upm_s, by rw [List.length_append]; exact hc, s7, fun i hi => ?_, fun i hi => ?_⟩, ?_⟩
  · have c3 : V.gI sb 9 3 = some (nI l.length) := gI_ h2 rfl
    have c3' : X.gI sb 9 3 = some (nI l.length) := gI_ s3 rfl
    have c1' : X.gI sb 9 1 = some 0 := gI_ s3 rfl
    have c0' : X.gR sb 9 0 = some va' := gR_ s3 rfl
    have e323 : F_323 X sb = some 1 := by
      unfold F_323 J_323_0_j18
      rw [if_neg (by decide), c1', Option.bind_some, if_neg (fun q => q rfl), if_pos (.inr rfl), Option.bind_some]
    have e339 : F_339 X 32 = some 1 := by
      unfold F_339 J_339_0_j12
      rw [if_neg (by decide), if_pos (.inr rfl), Option.bind_some]
    have e401 : F_401 V sb 32 = some (sb, Z) := by
      unfold F_401
      rw [c3, Option.bind_some, rc_ h2, Option.bind_some, nI_1, e1, Option.bind_some, rc_ s3, Option.bind_some, e323, Option.bind_some, if_neg (by decide), e339, Option.bind_some, if_neg (by decide), c0', Option.bind_some, c3', Option.bind_some, nI_1, e3, Option.bind_some, show (32 : Int32).toInt8.toInt32 = 32 by decide, e4, Option.bind_some, rp_ hsb, Option.bind_some]
    unfold F_334
    rw [rc_ h2, Option.bind_some, e401, Option.bind_some]
    dsimp only
    rw [rp_ hsb, Option.bind_some]
  · rw [List.length_append, List.length_singleton] at hi
    rw [getD_app, upd_f]
    by_cases q : i < l.length
    · rw [if_neg (by omega), if_pos q]; exact s8 i q
    · have e : i = l.length := by omega
      subst e
      rw [if_pos rfl, if_neg q, Nat.sub_self]
      rfl
  · rw [upd_f]
    split
    · decide
    · exact s9 i hi
  · have a3 := k3.ap (T0 := T0) (sb := sb) h1 s3 (.inl rfl)
    have a4 := k4.ap (T0 := T0) (sb := sb) s4 y5 (.inr kd2)
    exact (a1.tr (a3.tr a4)).up (by decide) (by decide)
/-- a number of one or two digits -/
def dgt (k : Nat) : List Nat := if k < 10 then [48 + k] else [48 + k / 10, 48 + k % 10]
theorem dg_n : ∀ k, k < 100 → (-100 : Int32) < -nI k ∧ -(-nI k) = nI k ∧ (k < 10 → (-9 : Int32) ≤ -nI k ∧ ¬ -nI k ≤ -10) ∧ (¬ k < 10 → ¬ (-9 : Int32) ≤ -nI k ∧ -nI k ≤ -10 ∧ ¬ -nI k ≤ -100) ∧ ¬ nI k < 0 ∧ 0 ≤ nI k := by decide +kernel
theorem size_ {k : Nat} (hk : k < 100) : F_327 V (nI k) = some (nI (dgt k).length) := by
  obtain ⟨d1, d2, d3, d4, d5, d6⟩ := dg_n k hk
  unfold F_327 J_327_0_j11
  rw [if_neg d5]
  unfold dgt
  by_cases q : k < 10
  · obtain ⟨q1, q2⟩ := d3 q
    have e : lw (G_327_16 V (-nI k) 0) 200000 (-10, 1) = some (.inr 1) := by
      refine lw_end (k := 199999) ?_
      unfold G_327_16
      dsimp only
      rw [if_neg (by decide), if_neg q2]
      rfl
    rw [e, Option.bind_some, if_pos q]
    rfl
  · obtain ⟨q1, q2, q3⟩ := d4 q
    have e : lw (G_327_16 V (-nI k) 0) 200000 (-10, 1) = some (.inr 2) := by
      refine (lw_one (k := 199999) (t := (-100, 2)) ?_).trans (lw_end (k := 199998) ?_)
      · unfold G_327_16
        dsimp only
        rw [if_neg (by decide), if_pos q2]
        rfl
      · unfold G_327_16
        dsimp only
        rw [if_neg (by decide), if_neg q3]
        rfl
    rw [e, Option.bind_some, if_neg q]
    rfl
theorem tab1 {k : Nat} (hk : k < 100) : V.aB (am_SB + 3) (nI k) = some (nI (48 + k % 10)) ∧ V.aB (am_SB + 4) (nI k) = some (nI (48 + k / 10)) := by
  have n3 : ¬ am_isB (am_SB + 3) := fun q => by have := q.2.1; omega
  have n4 : ¬ am_isB (am_SB + 4) := fun q => by have := q.2.1; omega
  have o3 : am_oa (am_SB + 3) = some (100, am_d1) := by
    unfold am_oa
    rw [if_neg n3, if_pos rfl]
  have o4 : am_oa (am_SB + 4) = some (100, am_dt) := by
    unfold am_oa
    rw [if_neg n4, if_neg (by omega), if_pos rfl]
  constructor
  · unfold Wd.aB
    rw [if_neg (by omega), o3]
    dsimp only
    rw [ixn hk (by decide)]
    rfl
  · unfold Wd.aB
    rw [if_neg (by omega), o4]
    dsimp only
    rw [ixn hk (by decide)]
    rfl
/-- a number appended -/
theorem sbInt (h : SS T0 V.cl sb l) {k : Nat} (hk : k < 100) (hlen : l.length + 2 ≤ 400) (hT : T0 ≤ V.top) (ht : V.top < 880000) :
    ∃ V', F_335 V sb (nI k) = some (sb, V') ∧ SS T0 V'.cl sb (l ++ dgt k) ∧ Ap T0 sb 1 802 V V' := by
  obtain ⟨va, z, cap, f, h⟩ := h
  obtain ⟨h1, h2, -⟩ := id h
  have hsb : sb < am_SB := lt_cl h2
  obtain ⟨d1, d2, d3, d4, d5, d6⟩ := dg_n k hk
  have hd : (dgt k).length = if k < 10 then 1 else 2 := by unfold dgt; split <;> rfl
  have hd2 : (dgt k).length ≤ 2 := by rw [hd]; split <;> omega
  obtain ⟨X, va', cap', f', e1, s1, hc, a1, -⟩ := sbEns h (m := l.length + (dgt k).length) (by omega) hT ht
  obtain ⟨s2, s3, s4, s5, s6, s7, s8, s9⟩ := id s1
  have hvs : ¬ sb = va' := fun q => by subst q; rw [s3] at s5; cases s5
  -- the digits laid
  have chars : ∃ Y g x, F_326 X (nI k) (nI (l.length + (dgt k).length)) va' = some (x, Y) ∧ Y.cl va' = some (.inl (2, cap', .inl g)) ∧ (∀ b, ¬ b = va' → Y.cl b = X.cl b) ∧ Ap T0 sb 0 0 X Y ∧ (∀ i, g i = if l.length ≤ i ∧ i < l.length + (dgt k).length then nI ((dgt k).getD (i - l.length) 0) else f' i) := by
    have loop : ∀ B, lw (G_326_22 va' 0) 200000 (-nI k, nI (l.length + (dgt k).length), B) = some (-nI k, nI (l.length + (dgt k).length), B) := fun B => by
      refine lw_end (k := 199999) ?_
      unfold G_326_22
      dsimp only
      rw [if_pos d1]
    by_cases q : k < 10
    · obtain ⟨q1, q2⟩ := d3 q
      have hd1 : (dgt k).length = 1 := by rw [hd, if_pos q]
      have e48 : dgt k = [48 + k] := if_pos q
      obtain ⟨Y, e5, k5⟩ := sB_ (i := l.length) (y := nI (48 + k % 10)) s5 (by omega) (by omega) (.inr ⟨rfl, by_ok _ (by omega)⟩)
      refine ⟨Y, _, nI l.length, ?_, by rw [k5.1]; exact upm_s, fun b hb => by rw [k5.1, upm_n hb], k5.ap s4 s5 (.inr kd2), fun i => ?_⟩
      · unfold F_326 J_326_0_j12
        rw [if_pos d6, if_neg (fun w => w rfl), loop, Option.bind_some]
        dsimp only
        rw [d2, (tab1 hk).1, Option.bind_some, hd1, pk_m1, e5, Option.bind_some, if_pos q1]
        unfold J_326_0_j104 J_326_0_j118
        rw [if_pos rfl]
      · rw [upd_f, hd1]
        by_cases w : i = l.length
        · rw [if_pos w, if_pos (by omega), e48, w, Nat.sub_self]
          show nI (48 + k % 10) = nI (48 + k)
          rw [Nat.mod_eq_of_lt q]
        · rw [if_neg w, if_neg (by omega)]
    · obtain ⟨q1, q2, q3⟩ := d4 q
      have hd1 : (dgt k).length = 2 := by rw [hd, if_neg q]
      have e48 : dgt k = [48 + k / 10, 48 + k % 10] := if_neg q
      obtain ⟨Y, e5, k5⟩ := sB_ (i := l.length + 1) (y := nI (48 + k % 10)) s5 (by omega) (by omega) (.inr ⟨rfl, by_ok _ (by omega)⟩)
      have y5 : Y.cl va' = some (.inl (2, cap', .inl (upd f' (l.length + 1) (nI (48 + k % 10))))) := by rw [k5.1]; exact upm_s
      obtain ⟨Y2, e6, k6⟩ := sB_ (i := l.length) (y := nI (48 + k / 10)) y5 (by omega) (by omega) (.inr ⟨rfl, by_ok _ (by omega)⟩)
      refine ⟨Y2, _, nI l.length, ?_, by rw [k6.1]; exact upm_s, fun b hb => by rw [k6.1, upm_n hb, k5.1, upm_n hb], ((k5.ap s4 s5 (.inr kd2)).tr (k6.ap s4 y5 (.inr kd2))).up (by decide) (by decide), fun i => ?_⟩
      · unfold F_326 J_326_0_j12
        rw [if_pos d6, if_neg (fun w => w rfl), loop, Option.bind_some]
        dsimp only
        rw [d2, (tab1 hk).1, Option.bind_some, hd1, show l.length + 2 = (l.length + 1) + 1 from rfl, pk_m1, e5, Option.bind_some, if_neg q1, (tab1 hk).2, Option.bind_some, pk_m1, e6, Option.bind_some]
        unfold J_326_0_j104 J_326_0_j118
        rw [if_pos rfl]
      · rw [upd_f, upd_f, hd1, e48]
        by_cases w : i = l.length
        · rw [if_pos w, if_pos (by omega), w, Nat.sub_self]
          rfl
        · rw [if_neg w]
          by_cases w2 : i = l.length + 1
          · rw [if_pos w2, if_pos (by omega), w2, Nat.add_sub_cancel_left]
            rfl
          · rw [if_neg w2, if_neg (by omega)]
  obtain ⟨Y, g, x, e5, y5, yo', a5, hg⟩ := chars
  have y3 : Y.cl sb = some (.inr (9, [.ref va', .int 0, .int z, .int (nI l.length)])) := by rw [yo' sb hvs]; exact s3
  obtain ⟨Z, e4, k4⟩ := pv_ (v := .int (nI (l.length + (dgt k).length))) (i := 3) y3 ⟨show 3 < 4 by decide, rfl, rfl, nofun⟩
  have dlt : ∀ i, (dgt k).getD i 0 < 128 := fun i => by
    unfold dgt
    split
    · match i with
      | 0 => show 48 + k < 128; omega
      | i + 1 => exact (by decide : 0 < 128)
    · match i with
      | 0 => show 48 + k / 10 < 128; omega
      | 1 => show 48 + k % 10 < 128; omega
      | i + 2 => exact (by decide : 0 < 128)
  refine ⟨Z, ?_, ⟨va', z, cap', g, s2, by rw [k4.1, List.length_append]; exact upm_s, s4, by rw [k4.1, upm_n (fun q => hvs q.symm)]; exact y5, by rw [List.length_append]; exact hc, s7, fun i hi => ?_, fun i hi => ?_⟩, ?_⟩
  · have c3 : V.gI sb 9 3 = some (nI l.length) := gI_ h2 rfl
    have c1' : X.gI sb 9 1 = some 0 := gI_ s3 rfl
    have c0' : X.gR sb 9 0 = some va' := gR_ s3 rfl
    have e323 : F_323 X sb = some 1 := by
      unfold F_323 J_323_0_j18
      rw [if_neg (by decide), c1', Option.bind_some, if_neg (fun q => q rfl), if_pos (.inr rfl), Option.bind_some]
    have e402 : F_402 V sb (nI k) = some (sb, Z) := by
      unfold F_402
      rw [c3, Option.bind_some, size_ hk, Option.bind_some, rc_ h2, Option.bind_some, nI_add, e1, Option.bind_some, rc_ s3, Option.bind_some, e323, Option.bind_some, if_neg (by decide), c0', Option.bind_some, e5, Option.bind_some]
      dsimp only
      rw [e4, Option.bind_some, rp_ hsb, Option.bind_some]
    unfold F_335
    rw [rc_ h2, Option.bind_some, e402, Option.bind_some]
    dsimp only
    rw [rp_ hsb, Option.bind_some]
  · rw [List.length_append] at hi
    rw [hg, getD_app]
    by_cases q : i < l.length
    · rw [if_neg (by omega), if_pos q]; exact s8 i q
    · rw [if_pos (by omega), if_neg q]
  · rw [hg]
    split
    · exact by_ok _ (dlt _)
    · exact s9 i hi
  · have a4 := k4.ap (T0 := T0) (sb := sb) h1 y3 (.inl rfl)
    exact (a1.tr (a5.tr a4)).up (by decide) (by decide)
end SBB
