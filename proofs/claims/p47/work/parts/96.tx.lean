/-! ===== THE YARD'S TEXT ===== -/
/-- what is laid behind T0, nothing before it changed -/
def Gz (T0 c k : Nat) (V V' : Wd) : Prop := (∀ b, b < T0 → V'.cl b = V.cl b) ∧ Sm V V' ∧ Co c k V V' ∧ V.top ≤ V'.top
theorem Ap.gz {T0 sb c k : Nat} {V V' : Wd} (h : Ap T0 sb c k V V') : Gz T0 c k V V' := ⟨h.1, h.2.2.1, h.2.2.2.1, h.2.2.2.2⟩
theorem Gz.rf (T0 : Nat) (V : Wd) : Gz T0 0 0 V V := ⟨fun _ _ => rfl, Sm.rf V, Co.rf V, Nat.le_refl _⟩
theorem Gz.tr {T0 c k d j : Nat} {X Y Z : Wd} (h : Gz T0 c k X Y) (g : Gz T0 d j Y Z) : Gz T0 (c + d) (k + j) X Z := ⟨fun b hb => (g.1 b hb).trans (h.1 b hb), h.2.1.tr g.2.1, h.2.2.1.tr g.2.2.1, Nat.le_trans h.2.2.2 g.2.2.2⟩
theorem Gz.up {T0 c k d j : Nat} {X Y : Wd} (h : Gz T0 c k X Y) (h1 : c ≤ d) (h2 : k ≤ j) : Gz T0 d j X Y := ⟨h.1, h.2.1, h.2.2.1.up h1 h2, h.2.2.2⟩
theorem Gz.top {T0 c k : Nat} {X Y : Wd} (h : Gz T0 c k X Y) : Y.top ≤ X.top + c := by
  have q1 := h.2.2.1.1
  have q2 := h.2.2.1.2.2
  omega
theorem SS.rc {T0 sb : Nat} {V : Wd} {l : List Nat} (h : SS T0 V.cl sb l) : V.rc sb 9 = some () ∧ sb < am_SB := by
  obtain ⟨va, z, cap, f, -, h2, -⟩ := h
  exact ⟨rc_ h2, lt_cl h2⟩
section SBN
variable {T0 sb : Nat} {V : Wd} {l : List Nat}
/-- an empty builder -/
theorem sbNew (h : V.cl sb = some (.inr (9, am_fd 9))) (hs : T0 ≤ sb) (hT : T0 ≤ V.top) (ht : V.top < 880000) : ∃ V', F_331 V sb = some V' ∧ SS T0 V'.cl sb [] ∧ Ap T0 sb 1 16 V V' := by
  have sbv : am_SB = 1000000 := rfl
  have hsb : sb < am_SB := lt_cl h
  have hs1 := cl_lt h
  obtain ⟨X, e2, k2⟩ := nA_ (W := V) (t := 2) (n := 16) (by decide) (by omega)
  have x1 : X.cl sb = some (.inr (9, [.null, .int 0, .int 0, .int 0])) := k2.old h
  have n2 := k2.new 0
  rw [Nat.add_zero] at n2
  have n2 : X.cl V.top = some (.inl (2, 16, .inl (fun _ => 0))) := n2
  obtain ⟨Y, e3, k3⟩ := pv_ (v := .ref V.top) (i := 0) x1 ⟨show 0 < 4 by decide, rfl, rfl, am_ir (by omega)⟩
  have y1 : Y.cl sb = some (.inr (9, [.ref V.top, .int 0, .int 0, .int 0])) := by rw [k3.1]; exact upm_s
  obtain ⟨Z, e4, k4⟩ := pv_ (v := .int 0) (i := 1) y1 ⟨show 1 < 4 by decide, by decide, nb0, nofun⟩
  refine ⟨Z, ?_, ⟨V.top, 0, 16, fun _ => 0, hs, by rw [k4.1]; exact upm_s, hT, by rw [k4.1, upm_n (by omega), k3.1, upm_n (by omega)]; exact n2, by decide, by decide, fun i hi => absurd hi (Nat.not_lt_zero _), fun i _ => by show (0 : Int32).toInt8.toInt32 = 0; decide⟩, ?_⟩
  · have e2 : V.nA 2 16 = some (V.top, X) := e2
    unfold F_331 F_318
    rw [rp_ hsb, Option.bind_some, Option.bind_some, if_neg (by decide), e2, Option.bind_some]
    dsimp only
    rw [e3, Option.bind_some, e4, Option.bind_some, Option.bind_some]
  · have a2 := k2.ap (T0 := T0) (sb := sb) hT
    have a3 := k3.ap (T0 := T0) (sb := sb) hs x1 (.inl rfl)
    have a4 := k4.ap (T0 := T0) (sb := sb) hs y1 (.inl rfl)
    exact (a2.tr (a3.tr a4)).up (by decide) (by decide)
/-- a builder that begins with a text -/
theorem sbOf {a : Nat} (h : V.cl sb = some (.inr (9, am_fd 9))) (hs : T0 ≤ sb) (hT : T0 ≤ V.top) (ht : V.top < 870000) (hx : ∀ V' : Wd, (∀ b d, V.cl b = some d → ¬ b = sb → V'.cl b = some d) → TV V' a l) : ∃ V', F_332 V sb a = some V' ∧ SS T0 V'.cl sb l ∧ Ap T0 sb 2 1218 V V' := by
  have sbv : am_SB = 1000000 := rfl
  have hsb : sb < am_SB := lt_cl h
  have hs1 := cl_lt h
  have hx0 := hx V fun _ _ h _ => h
  have hl4 := hx0.2.2.1
  have h0 : V.cl sb = some (.inr (9, [.null, .int 0, .int 0, .int 0])) := h
  obtain ⟨X, e1, k1⟩ := pv_ (v := .int 0) (i := 1) h0 ⟨show 1 < 4 by decide, by decide, nb0, nofun⟩
  have x1 : X.cl sb = some (.inr (9, [.null, .int 0, .int 0, .int 0])) := by rw [k1.1]; exact upm_s
  have tX : X.top = V.top := k1.2.2.2.2.2.2.2.2.2.1
  obtain ⟨Y, e2, k2⟩ := nA_ (W := X) (t := 2) (n := l.length + 16) (by omega) (by omega)
  have y1 := k2.old x1
  have n2 := k2.new 0
  rw [Nat.add_zero] at n2
  have n2 : Y.cl X.top = some (.inl (2, l.length + 16, .inl (fun _ => 0))) := n2
  obtain ⟨Z, e3, k3⟩ := pv_ (v := .ref X.top) (i := 0) y1 ⟨show 0 < 4 by decide, rfl, rfl, am_ir (by omega)⟩
  have tZ : Z.top = V.top + 1 := k3.2.2.2.2.2.2.2.2.2.1.trans (k2.2.2.1.trans (by rw [tX]; rfl))
  have z1 : Z.cl sb = some (.inr (9, [.ref X.top, .int 0, .int 0, .int 0])) := by rw [k3.1]; exact upm_s
  have ss : SS T0 Z.cl sb [] := ⟨X.top, 0, l.length + 16, fun _ => 0, hs, z1, by omega, by rw [k3.1, upm_n (by omega)]; exact n2, Nat.zero_le _, by omega, fun i hi => absurd hi (Nat.not_lt_zero _), fun i _ => by show (0 : Int32).toInt8.toInt32 = 0; decide⟩
  have keep : ∀ b d, V.cl b = some d → ¬ b = sb → Z.cl b = some d := fun b d hb hne => by
    rw [k3.1, upm_n hne]
    exact k2.old (by rw [k1.1, upm_n hne]; exact hb)
  obtain ⟨R, e4, s4, a4⟩ := sbStr (a := a) (l2 := l) ss (fun V' hV => hx V' fun b d hb hne => hV b d (keep b d hb hne) hne) (by show 0 + l.length ≤ 400; omega) (by omega) (by omega)
  refine ⟨R, ?_, s4, ?_⟩
  · have e337 : F_337 Z sb a = some (sb, R) := by
      unfold F_337
      rw [rc_ z1, Option.bind_some, e4, Option.bind_some]
      dsimp only
      rw [rp_ hsb, Option.bind_some]
    unfold F_332 F_319
    rw [rp_ hsb, Option.bind_some, Option.bind_some, hx0.2.2.2.1, Option.bind_some, f255 hx0.to, Option.bind_some, if_neg (show ¬ (2147483631 : Int32) ≤ nI l.length from nI_ge (b := 2147483631) (by omega) (by decide))]
    unfold J_319_0_j24
    rw [hx0.2.2.2.1, Option.bind_some, f257 hx0.to, Option.bind_some, e1, Option.bind_some, if_neg (fun q => q rfl), z16, nI_add, e2, Option.bind_some]
    dsimp only
    rw [e3, Option.bind_some, rc_ z1, Option.bind_some, e337, Option.bind_some, Option.bind_some]
  · have a1 := k1.ap (T0 := T0) (sb := sb) hs h (.inl rfl)
    have a2 := k2.ap (T0 := T0) (sb := sb) (by omega)
    have a3 := k3.ap (T0 := T0) (sb := sb) hs y1 (.inl rfl)
    exact (a1.tr (a2.tr (a3.tr a4))).up (by show 0 + (1 + (0 + 1)) ≤ 2; decide) (by omega)
/-- the builder's text -/
theorem sbOut (h : SS T0 V.cl sb l) (h1 : ∀ i, l.getD i 0 < 128) (h2 : ∀ i, i < l.length → 0 < l.getD i 0) (h3 : l.length ≤ 400) (hT : T0 ≤ V.top) (ht : V.top < 880000) : ∃ V', F_336 V sb = some (V.top, V') ∧ (∀ V2 : Wd, (∀ b d, V'.cl b = some d → V.top ≤ b → V2.cl b = some d) → TV V2 V.top l) ∧ (∀ b d, V.cl b = some d → V'.cl b = some d) ∧ Gz T0 2 806 V V' := by
  have sbv : am_SB = 1000000 := rfl
  obtain ⟨va, z, cap, f, s1, s2, s3, s4, s5, s6, s7, s8⟩ := h
  obtain ⟨X, e1, k1⟩ := nO_ (W := V) (ci := 8) (by decide) (by omega)
  have x1 := k1.new 0
  rw [Nat.add_zero] at x1
  have x1 : X.cl V.top = some (.inr (8, [.null, .int 0, .int 0, .int 0])) := x1
  have tX : X.top = V.top + 1 := k1.2.2.1
  have x2 := k1.old s2
  have x4 := k1.old s4
  have hv1 := cl_lt s4
  have hs1 := cl_lt s2
  obtain ⟨Y, e2, k2⟩ := pv_ (v := .int 0) (i := 1) x1 ⟨show 1 < 4 by decide, by decide, nb0, nofun⟩
  have y1 : Y.cl V.top = some (.inr (8, [.null, .int 0, .int 0, .int 0])) := by rw [k2.1]; exact upm_s
  have y4 : Y.cl va = some (.inl (2, cap, .inl f)) := by rw [k2.1, upm_n (by omega)]; exact x4
  have tY : Y.top = V.top + 1 := k2.2.2.2.2.2.2.2.2.2.1.trans tX
  -- the bytes copied
  have bytes : ∃ Z g, F_361 Y va 0 (nI l.length) = some (Y.top, Z) ∧ Z.cl Y.top = some (.inl (2, l.length, .inl g)) ∧ (∀ i, i < l.length → g i = nI (l.getD i 0)) ∧ (∀ b, b < Y.top → Z.cl b = Y.cl b) ∧ Sm Y Z ∧ Co 1 802 Y Z ∧ Z.top = Y.top + 1 := by
    have yl : Y.ln va = some (nI cap) := ln_ y4 (by decide)
    have alt : Y.top < am_SB := by omega
    by_cases q : l.length = cap
    · have ec : ∃ Z, Y.nC 2 va = some (Y.top, Z) ∧ Nw Y Z [.inl (2, cap, .inl f)] cap := by
        refine ⟨_, ?_, Nw.of (L := [.inl (2, cap, .inl f)]) (n := cap) (show Y.top + 1 ≤ 900000 by omega)⟩
        unfold Wd.nC
        rw [if_pos (by omega), y4]
        exact if_pos ⟨rfl, .inr ⟨rfl, s8⟩⟩
      obtain ⟨Z, e3, k3⟩ := ec
      have n3 := k3.new 0
      rw [Nat.add_zero] at n3
      have n3 : Z.cl Y.top = some (.inl (2, cap, .inl f)) := n3
      refine ⟨Z, f, ?_, by rw [q]; exact n3, s7, fun b hb => by rw [k3.1, if_neg (by omega)], k3.2.1, k3.co.up (by show 1 ≤ 1; decide) (by omega), k3.2.2.1⟩
      unfold F_361
      rw [if_neg (fun w => w rfl), yl, Option.bind_some, if_pos (by rw [q]), e3, Option.bind_some]
      dsimp only
      rw [ra_ n3 (.inr rfl), Option.bind_some, rp_ alt, Option.bind_some]
    · obtain ⟨Z, e3, k3⟩ := nA_ (W := Y) (t := 2) (n := l.length) (by omega) (by omega)
      have n3 := k3.new 0
      rw [Nat.add_zero] at n3
      have n3 : Z.cl Y.top = some (.inl (2, l.length, .inl (fun _ => 0))) := n3
      have z4 := k3.old y4
      have zl : Z.ln va = some (nI cap) := ln_ z4 (by decide)
      obtain ⟨R, e4, k4⟩ := cp_ (x := 0) (y := 0) (z := l.length) z4 n3 (.inr ⟨.inr rfl, fun j hj => by_fits (s8 j hj)⟩) (by omega) (by omega) (by omega) (by omega)
      have e4 : Z.cp va 0 Y.top 0 (nI l.length) = some R := e4
      refine ⟨R, _, ?_, by rw [k4.1]; exact upm_s, fun i hi => by rw [cpy_in hi]; exact s7 i hi, fun b hb => by rw [k4.1, upm_n (by omega), k3.1, if_neg (by omega)], k3.2.1.tr k4.sm, (k3.co.tr k4.co).up (by show 1 + 0 ≤ 1; decide) (by omega), k4.2.2.2.2.2.2.2.2.2.1.trans k3.2.2.1⟩
      have sub0 : ∀ m, nI m - 0 = nI m := fun m => by rw [z0, pk_sub (Nat.zero_le _), Nat.sub_zero]
      unfold F_361 J_361_0_j10 F_362 F_360
      rw [if_neg (fun w => w rfl), yl, Option.bind_some, if_neg (by rw [nI_eq (by omega) (by omega)]; exact q), if_pos (show (0 : Int32) ≤ nI l.length from nI_pos' (by omega)), Option.bind_some, sub0, e3, Option.bind_some]
      dsimp only
      rw [zl, Option.bind_some, sub0, imn_n (by omega) (by omega), Nat.min_eq_right s5, e4, Option.bind_some, rp_ alt, Option.bind_some, Option.bind_some]
      dsimp only
      rw [rp_ alt, Option.bind_some]
  obtain ⟨Z, g, e3, n3, hg, zo, smZ, coZ, tZ⟩ := bytes
  have z1 : Z.cl V.top = some (.inr (8, [.null, .int 0, .int 0, .int 0])) := by rw [zo _ (by omega)]; exact y1
  obtain ⟨R, e4, k4⟩ := pv_ (v := .ref Y.top) (i := 0) z1 ⟨show 0 < 4 by decide, rfl, rfl, am_ir (by omega)⟩
  have r1 : R.cl V.top = some (.inr (8, [.ref Y.top, .int 0, .int 0, .int 0])) := by rw [k4.1]; exact upm_s
  have r2 : R.cl Y.top = some (.inl (2, l.length, .inl g)) := by rw [k4.1, upm_n (by omega)]; exact n3
  have old : ∀ b, b < V.top → R.cl b = V.cl b := fun b hb => by rw [k4.1, upm_n (by omega), zo b (by omega), k2.1, upm_n (by omega), k1.1, if_neg (by omega)]
  refine ⟨R, ?_, fun V2 hV => ?_, fun b d hb => by rw [old b (cl_lt hb)]; exact hb, fun b hb => old b (by omega), k1.2.1.tr (k2.sm.tr (smZ.tr k4.sm)), (k1.co.tr (k2.co.tr (coZ.tr k4.co))).up (by decide) (by decide), ?_⟩
  · have c0 : X.gR sb 9 0 = some va := gR_ x2 rfl
    have c1 : X.gI sb 9 1 = some 0 := gI_ x2 rfl
    have c3 : X.gI sb 9 3 = some (nI l.length) := gI_ x2 rfl
    have e322 : F_322 X sb = some va := by
      unfold F_322
      rw [c0, Option.bind_some, rp_ (by omega), Option.bind_some]
    have e338 : F_338 X sb = some (nI l.length) := by
      unfold F_338 F_403
      rw [rc_ x2, Option.bind_some, c3, Option.bind_some, Option.bind_some]
    have e323 : F_323 X sb = some 1 := by
      unfold F_323 J_323_0_j18
      rw [if_neg (by decide), c1, Option.bind_some, if_neg (fun q => q rfl), if_pos (.inr rfl), Option.bind_some]
    unfold F_336 F_328 F_330 J_330_0_j97
    rw [e1, Option.bind_some]
    dsimp only
    rw [rp_ (by omega), Option.bind_some, Option.bind_some, Option.bind_some, rc_ x2, Option.bind_some, e322, Option.bind_some, Option.bind_some, e338, Option.bind_some, Option.bind_some, e323, Option.bind_some, if_neg (by decide), e2, Option.bind_some, e3, Option.bind_some]
    dsimp only
    rw [e4, Option.bind_some, Option.bind_some, Option.bind_some]
    rfl
  · have v1 := hV _ _ r1 (Nat.le_refl _)
    have v2 := hV _ _ r2 (by omega)
    refine ⟨h1, h2, h3, ?_, gI_ v1 rfl, by omega, Y.top, g, gR_ v1 rfl, hg, .inl v2⟩
    unfold Wd.rs
    rw [if_pos (lt_cl v1)]
    exact rc_ v1
  · have : R.top = Z.top := k4.2.2.2.2.2.2.2.2.2.1
    omega
end SBN
