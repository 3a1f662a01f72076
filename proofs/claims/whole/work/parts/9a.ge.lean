/-! ===== EDGES LAID AND TAKEN, IN A POSITION ===== -/
section GE
variable {n E u v : Nat}
theorem bl_sub {E' : Nat} (h : Gr n E) (h' : Gr n E') (hs : ∀ x y, y < 6 → ad E x y = true → ad E' x y = true) {w : Nat} : ∀ {k j : Nat}, (bl n E w k).testBit j = true → (bl n E' w k).testBit j = true
  | 0, j, hj => hj
  | k + 1, j, hj => by
    rw [bl_succ h] at hj
    rw [bl_succ h']
    rcases hj with hj | ⟨h1, x, h2, h3, h4⟩
    · exact .inl (bl_sub h h' hs hj)
    · exact .inr ⟨h1, x, h2, bl_sub h h' hs h3, hs x j (by have := h.2.1; omega) h4⟩
theorem Cn.ae (hC : Cn n E) (hG : Gr n E) (hu : u < n) (hv : v < n) (hne : ¬ u = v) : Cn n (ae E u v) := by
  have hn := hG.2.1
  intro w hw
  refine bl_sub hG (hG.ae hu hv hne) (fun x y hy h => ?_) (hC w hw)
  rw [ae_ad (by omega) (by omega) hy, h]
  rfl
/-- without the edge `u v` -/
def re (E u v : Nat) : Nat := nd E (eb u v)
theorem re_ad {x y : Nat} (hu : u < 6) (hv : v < 6) (hy : y < 6) : ad (re E u v) x y = (ad E x y && !(decide (x = u ∧ y = v) || decide (x = v ∧ y = u))) := by
  unfold ad re eb
  rw [nd_bit, Nat.testBit_or, ← Nat.one_shiftLeft, ← Nat.one_shiftLeft, one_shl_bit, one_shl_bit]
  have e1 : (6 * x + y = 6 * u + v) ↔ (x = u ∧ y = v) := by omega
  have e2 : (6 * x + y = 6 * v + u) ↔ (x = v ∧ y = u) := by omega
  rw [decide_eq_decide.2 e1, decide_eq_decide.2 e2]
theorem Gr.re (hG : Gr n E) (hu : u < 6) (hv : v < 6) : Gr n (re E u v) := by
  have hn := hG.2.1
  refine ⟨hG.1, hn, fun x y hy h => ?_⟩
  rw [re_ad hu hv hy, Bool.and_eq_true] at h
  obtain ⟨a, b, c, d⟩ := hG.2.2 x y hy h.1
  refine ⟨a, b, c, ?_⟩
  rw [re_ad hu hv (by omega), d, Bool.true_and]
  have h2 := h.2
  rw [Bool.not_eq_true', Bool.or_eq_false_iff, decide_eq_false_iff_not, decide_eq_false_iff_not] at h2
  rw [Bool.not_eq_true', Bool.or_eq_false_iff, decide_eq_false_iff_not, decide_eq_false_iff_not]
  exact ⟨fun z => h2.2 ⟨z.2, z.1⟩, fun z => h2.1 ⟨z.2, z.1⟩⟩
/-- the rows of a graph with one edge changed -/
def TG (E E' u v : Nat) : Prop := ∀ w, w < 6 → nb E' w = if w = u then nb E u ^^^ (1 <<< v) else if w = v then nb E v ^^^ (1 <<< u) else nb E w
theorem TG.of {E' : Nat} (hu : u < 6) (hv : v < 6) (hne : ¬ u = v) (h : ∀ x y, x < 6 → y < 6 → ad E' x y = (ad E x y ^^ (decide (x = u ∧ y = v) || decide (x = v ∧ y = u)))) : TG E E' u v := by
  intro w hw
  refine bit_ext fun j => ?_
  rw [nb_bit]
  by_cases hj : j < 6
  · rw [decide_eq_true hj, Bool.true_and, h w j hw hj]
    by_cases q : w = u
    · subst q
      rw [if_pos rfl, Nat.testBit_xor, nb_bit, decide_eq_true hj, Bool.true_and, one_shl_bit, decide_eq_false (fun z : w = v ∧ j = w => hne z.1), Bool.or_false]
      congr 1
      exact decide_eq_decide.2 ⟨fun z => z.2, fun z => ⟨rfl, z⟩⟩
    · rw [if_neg q]
      by_cases r : w = v
      · subst r
        rw [if_pos rfl, Nat.testBit_xor, nb_bit, decide_eq_true hj, Bool.true_and, one_shl_bit, decide_eq_false (fun z : w = u ∧ j = w => q z.1), Bool.false_or]
        congr 1
        exact decide_eq_decide.2 ⟨fun z => z.2, fun z => ⟨rfl, z⟩⟩
      · rw [if_neg r, nb_bit, decide_eq_true hj, Bool.true_and, decide_eq_false (fun z : w = u ∧ j = v => q z.1), decide_eq_false (fun z : w = v ∧ j = u => r z.1), Bool.or_false, Bool.xor_false]
  · rw [decide_eq_false hj, Bool.false_and]
    symm
    split
    · rw [Nat.testBit_xor, nb_bit, decide_eq_false hj, one_shl_bit, decide_eq_false (show ¬ j = v by omega)]; rfl
    · split
      · rw [Nat.testBit_xor, nb_bit, decide_eq_false hj, one_shl_bit, decide_eq_false (show ¬ j = u by omega)]; rfl
      · rw [nb_bit, decide_eq_false hj]; rfl
theorem TG.ae (hG : Gr n E) (hu : u < n) (hv : v < n) (hne : ¬ u = v) (h : ad E u v = false) : TG E (ae E u v) u v := by
  have hn := hG.2.1
  refine TG.of (by omega) (by omega) hne fun x y hx hy => ?_
  rw [ae_ad (by omega) (by omega) hy]
  by_cases q : (x = u ∧ y = v) ∨ (x = v ∧ y = u)
  · have : ad E x y = false := by
      rcases q with ⟨rfl, rfl⟩ | ⟨rfl, rfl⟩
      · exact h
      · cases hh : ad E x y with
        | false => rfl
        | true => rw [(hG.2.2 x y hy hh).2.2.2] at h; cases h
    rw [this, Bool.false_or, Bool.false_xor]
  · have : (decide (x = u ∧ y = v) || decide (x = v ∧ y = u)) = false := by
      rw [Bool.or_eq_false_iff, decide_eq_false_iff_not, decide_eq_false_iff_not]
      exact ⟨fun z => q (.inl z), fun z => q (.inr z)⟩
    rw [this, Bool.or_false, Bool.xor_false]
theorem TG.re (hG : Gr n E) (hu : u < n) (hv : v < n) (hne : ¬ u = v) (h : ad E u v = true) : TG E (re E u v) u v ∧ TG (re E u v) E u v := by
  have hn := hG.2.1
  have key : ∀ x y, x < 6 → y < 6 → (ad E x y && !(decide (x = u ∧ y = v) || decide (x = v ∧ y = u))) = (ad E x y ^^ (decide (x = u ∧ y = v) || decide (x = v ∧ y = u))) := by
    intro x y hx hy
    by_cases q : (x = u ∧ y = v) ∨ (x = v ∧ y = u)
    · have : ad E x y = true := by
        rcases q with ⟨rfl, rfl⟩ | ⟨rfl, rfl⟩
        · exact h
        · exact (hG.2.2 y x (by omega) h).2.2.2
      rw [this, Bool.true_and, Bool.true_xor]
    · have : (decide (x = u ∧ y = v) || decide (x = v ∧ y = u)) = false := by
        rw [Bool.or_eq_false_iff, decide_eq_false_iff_not, decide_eq_false_iff_not]
        exact ⟨fun z => q (.inl z), fun z => q (.inr z)⟩
      rw [this]
      cases ad E x y <;> rfl
  constructor
  · refine TG.of (by omega) (by omega) hne fun x y hx hy => ?_
    rw [re_ad (by omega) (by omega) hy, key x y hx hy]
  · refine TG.of (by omega) (by omega) hne fun x y hx hy => ?_
    rw [re_ad (by omega) (by omega) hy, key x y hx hy, Bool.xor_assoc, Bool.xor_self, Bool.xor_false]
theorem fa_xor (a b : Nat) : nI a ^^^ nI b = nI (a ^^^ b) := by
  apply b_ext
  intro i hi
  rw [b_xor, bt_nI hi, bt_nI hi, bt_nI hi, Nat.testBit_xor]
/-- the model changes an edge -/
theorem m184 {M : Md} {E' : Nat} (hM : MR n E M.now) (hu : u < 6) (hv : v < 6) (hne : ¬ u = v) (hT : TG E E' u v) : ∃ M', F_184 M (nI u) (nI v) = some M' ∧ MR n E' M'.now ∧ (∀ j, (j = 0 ∨ 7 ≤ j) → M'.now j = M.now j) ∧ M'.thrown = M.thrown ∧ M'.saved = M.saved ∧ M'.history = M.history ∧ M'.entries = M.entries ∧ M'.reason = M.reason ∧ M'.isSaved = M.isSaved ∧ M'.buffer = M.buffer ∧ M'.length = M.length := by
  obtain ⟨X, hX, x1, x2, x3, x4, x5, x6, x7, x8, x9⟩ := md_now M (upd M.now (1 + u) (nI (nb E u ^^^ (1 <<< v))))
  obtain ⟨Y, hY, y1, y2, y3, y4, y5, y6, y7, y8, y9⟩ := md_now X (upd X.now (1 + v) (nI (nb E v ^^^ (1 <<< u))))
  have r1 : X.now (1 + v) = nI (nb E v) := by rw [x1, pk_un (by omega)]; exact hM.2 v hv
  refine ⟨Y, ?_, ⟨?_, fun w hw => ?_⟩, fun j hj => ?_, y2.trans x2, y3.trans x3, y4.trans x4, y5.trans x5, y6.trans x6, y7.trans x7, y8.trans x8, y9.trans x9⟩
  · unfold F_184
    rw [i1a, ixn (by omega) (by decide), Option.bind_some, hM.2 u hu, show (1 : Int32) = nI 1 from rfl, shl_n 1 (by omega), fa_xor, hX, Option.bind_some, nI_add, ixn (by omega) (by decide), Option.bind_some, r1, shl_n 1 (by omega), fa_xor, hY]
    rfl
  · rw [y1, pk_un (by omega), x1, pk_un (by omega)]; exact hM.1
  · rw [y1, hT w hw]
    by_cases q : w = v
    · subst q
      rw [pk_us, if_neg (fun z => hne z.symm), if_pos rfl]
    · rw [pk_un (by omega), x1]
      by_cases r : w = u
      · subst r; rw [pk_us, if_pos rfl]
      · rw [pk_un (by omega), if_neg r, if_neg q]; exact hM.2 w hw
  · rw [y1, pk_un (by omega), x1, pk_un (by omega)]
theorem l_nd (a b : Nat) : lN a &&& (lN b ^^^ (18446744073709551615 : Int64)) = lN (nd a b) := by
  apply Int64.toBitVec_inj.1
  show BitVec.ofNat 64 a &&& (BitVec.ofNat 64 b ^^^ BitVec.ofNat 64 18446744073709551615) = BitVec.ofNat 64 (nd a b)
  apply BitVec.eq_of_getLsbD_eq
  intro i hi
  rw [BitVec.getLsbD_and, BitVec.getLsbD_xor, BitVec.getLsbD_ofNat, BitVec.getLsbD_ofNat, BitVec.getLsbD_ofNat, BitVec.getLsbD_ofNat, nd_bit, decide_eq_true hi, show (18446744073709551615 : Nat) = 2 ^ 64 - 1 from rfl, Nat.testBit_two_pow_sub_one, decide_eq_true hi]
  cases a.testBit i <;> cases b.testBit i <;> rfl
/-- the class takes an edge -/
theorem c5 {B : Bd} (hB : CB n E B) (hu : u < 6) (hv : v < 6) : ∃ B', F_5 B (nI u) (nI v) = some B' ∧ CB n (re E u v) B' ∧ B'.pile = B.pile ∧ B'.moveCount = B.moveCount ∧ B'.strategyCount = B.strategyCount ∧ B'.targets = B.targets ∧ B'.weights = B.weights ∧ B'.parents = B.parents := by
  obtain ⟨y, hy, a1, a2, a3⟩ := bd_edges B (lN (re E u v))
  refine ⟨y, ?_, ⟨a2.trans hB.1, a1⟩, a3⟩
  unfold F_5
  rw [c3 hu hv, Option.bind_some, hB.2, l_nd]
  show (some (B.w_edges (lN (re E u v)))).bind _ = _
  rw [hy]
  rfl
theorem c12 {B : Bd} (hB : CB n E B) (hG : Gr n E) (hu : u < 6) (hv : v < 6) : F_12 B (nI u) (nI v) = some (bI (decide (pcn (bl n (re E u v) 0 (n - 1)) n = n))) := by
  unfold F_12
  rw [c3 hu hv, Option.bind_some, hB.2, l_nd, show nd E (eb u v) = re E u v from rfl, c10 hB (hG.re hu hv), Option.bind_some]
  exact bI_ok
end GE
/-! ===== CHANGES: what is kept, what is refused ===== -/
section CHG
variable {k c : Nat} {W V : Wd} {X : Md}
def MN (M M' : Md) : Prop := M'.saved = M.saved ∧ M'.history = M.history ∧ M'.entries = M.entries ∧ M'.reason = M.reason ∧ M'.isSaved = M.isSaved ∧ M'.buffer = M.buffer ∧ M'.length = M.length
theorem Sim.kept (h : Sim k W) (hk : k < 90000) (f : RG c W V) (hc : c ≤ 6) (m : MO W.md X) : ∃ V1 M1, F_50 V = some V1 ∧ F_166 X = some M1 ∧ V1.board = W.board ∧ V1.md = W.md ∧ M1.now = X.now ∧ M1.thrown = X.thrown ∧ (∀ a Q, V.fp a = some Q → V1.fp a = some Q) ∧ ∀ B o, MN M1 o → SP B o.now → Sim (k + 7) ((V1.w_board B).w_md o) := by
  obtain ⟨⟨b, len, s1, s2⟩, s3, ⟨s4, s5⟩, s6, s7, s8, s9, s10⟩ := h
  obtain ⟨a1, a2, a3, a4, a5, a6, a7, a8, a9, a10, a11, a12⟩ := f
  obtain ⟨m1, m2, m3, m4, m5, m6, m7, m8⟩ := m
  have d := s10.1
  obtain ⟨V1, M1, e1, e2, kp, mh, hh⟩ := keep (W := V) (M := X) (by rw [m3, m4]; exact s7.mono a4 a7) (by rw [a2, m1]; exact s3) (by omega)
  have kfc := kp.fc a12
  obtain ⟨p1, p2, p3, p4, p5, p6, p7, p8, p9, p10, p11, p12⟩ := kp
  have q10 : V1.kc ≤ W.kc + 6 * (c + 1) := by clear s7 hh; omega
  have q11 : V1.kn ≤ W.kn + 1154 * (c + 1) := by
    have : 1154 * (c + 1) = 1154 * c + 1154 * 1 := Nat.mul_add _ _ _
    rw [this]
    exact Nat.le_trans p11 (by rw [← Nat.add_assoc]; exact Nat.add_le_add_right a9 _)
  have q12 : V1.dyn.length ≤ W.dyn.length + (c + 1) := by clear s7 hh; omega
  obtain ⟨h1, h2, h3, h4, h5, h6, h7⟩ := mh
  refine ⟨V1, M1, e1, e2, p2.trans a2, p7.trans a6, h1, h7, p9, fun B o mn hs => ?_⟩
  obtain ⟨n1, n2, n3, n4, n5, n6, n7⟩ := mn
  obtain ⟨Y, hY⟩ : ∃ Y, V1.w_board B = Y := ⟨_, rfl⟩
  have b1 : Y.pp = V1.pp := by subst hY; rfl
  have b2 : Y.board = B := by subst hY; rfl
  have b3 : Y.saved = V1.saved := by subst hY; rfl
  have b4 : Y.hist = V1.hist := by subst hY; rfl
  have b5 : Y.inp = V1.inp := by subst hY; rfl
  have b6 : Y.dyn = V1.dyn := by subst hY; rfl
  have b7 : Y.kc = V1.kc := by subst hY; rfl
  have b8 : Y.kn = V1.kn := by subst hY; rfl
  have b9 : Y.ol = V1.ol := by subst hY; rfl
  have b10 : Y.fps = V1.fps := by subst hY; rfl
  rw [hY]
  obtain ⟨Z, hZ, v1, v2, v3, v4, v5, v6, v7, v8, v9, v10, v11⟩ := md_w Y o
  rw [hZ]
  refine ⟨⟨b, len, by rw [v5, b5, p4, a5]; exact s1, ?_⟩, ?_, ⟨?_, ?_⟩, ?_, ?_, by rw [v10, b9, p5]; exact a11, kfc.dy (v11.trans b10) (v7.trans b6), s10.up (c := c + 1) (by rw [v8, b7]; exact q10) (by rw [v9, b8]; exact q11) (by rw [v7, b6]; exact q12) (by omega)⟩
  · rw [v6]
    exact ⟨n7.trans (h6.trans (m8.trans s2.1)), s2.2.1, fun i hi => by rw [n6, h5, m7]; exact s2.2.2 i hi⟩
  · rw [v2, b2, v6]; exact hs
  · rw [v1, b1, p1, a1, v6, n5, h4, m6]; exact s4
  · rw [v6, n5, h4, m6, n1, h2, m2, v3, b3, p3, a3]; exact s5
  · rw [v1, b1, p1, a1, v6, n4, h3, m5]; exact s6
  · rw [v6, n2, n3]
    exact hh.mono (v4.trans b4) fun a B q => by rw [bd_dyn (v7.trans b6)]; exact q
/-- a refusal -/
theorem Sim.ref (h : Sim k W) (f : RG c W V) (hc : c ≤ 6) (m : MO W.md X) (r d : Int32) : Sim (k + 7) ((V.w_pp (V.pp.w_refusal r)).thr.w_md ((X.w_reason r).w_thrown d)) := by
  obtain ⟨⟨b, len, s1, s2⟩, s3, ⟨s4, s5⟩, s6, s7, s8, s9, s10⟩ := h
  obtain ⟨a1, a2, a3, a4, a5, a6, a7, a8, a9, a10, a11, a12⟩ := f
  obtain ⟨m1, m2, m3, m4, m5, m6, m7, m8⟩ := m
  obtain ⟨Y, hY⟩ : ∃ Y, (V.w_pp (V.pp.w_refusal r)).thr = Y := ⟨_, rfl⟩
  have b1 : Y.pp = V.pp.w_refusal r := by subst hY; rfl
  have b2 : Y.board = V.board := by subst hY; rfl
  have b3 : Y.saved = V.saved := by subst hY; rfl
  have b4 : Y.hist = V.hist := by subst hY; rfl
  have b5 : Y.inp = V.inp := by subst hY; rfl
  have b6 : Y.dyn = V.dyn := by subst hY; rfl
  have b7 : Y.kc = V.kc + 1 := by subst hY; rfl
  have b8 : Y.kn = V.kn + 6 := by subst hY; rfl
  have b9 : Y.ol = V.ol := by subst hY; rfl
  have b10 : Y.fps = V.fps := by subst hY; rfl
  obtain ⟨R, hR, r1, r2, r3, r4, r5, r6, r7, r8, r9⟩ := md_rea X r
  obtain ⟨o, ho, o1, o2, o3, o4, o5, o6, o7, o8, o9⟩ := md_thrown R d
  rw [hY, hR, ho]
  obtain ⟨Z, hZ, v1, v2, v3, v4, v5, v6, v7, v8, v9, v10, v11⟩ := md_w Y o
  rw [hZ]
  refine ⟨⟨b, len, by rw [v5, b5, a5]; exact s1, ?_⟩, ?_, ⟨?_, ?_⟩, ?_, ?_, by rw [v10, b9]; exact a11, a12.dy (v11.trans b10) (v7.trans b6), s10.up (c := c + 1) (by rw [v8, b7]; omega) (by rw [v9, b8]; omega) (by rw [v7, b6]; omega) (by omega)⟩
  · rw [v6]
    exact ⟨o9.trans (r9.trans (m8.trans s2.1)), s2.2.1, fun i hi => by rw [o8, r8, m7]; exact s2.2.2 i hi⟩
  · rw [v2, b2, a2, v6, o2, r1, m1]; exact s3
  · rw [v1, b1, v6, o7, r7, m6]
    show V.pp.hasSaved = _
    rw [a1]; exact s4
  · rw [v6, o7, r7, m6, o3, r3, m2, v3, b3, a3]; exact s5
  · rw [v1, b1, v6, o6, r6]; rfl
  · rw [v6, o4, r4, m3, o5, r5, m4]
    exact s7.mono (v4.trans (b4.trans a4)) fun a B q => by rw [bd_dyn (v7.trans b6)]; exact a7 a B q
end CHG
