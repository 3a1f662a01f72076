/-! ===== THE WORLD AND THE MODEL, SIDE BY SIDE ===== -/
def Cs (k : Nat) (W : Wd) : Prop := W.dyn.length ≤ k ∧ W.kc ≤ 47 + 6 * k ∧ W.kn ≤ 338594 + 1154 * k
def Sim (k : Nat) (W : Wd) : Prop := (∃ b len, TX b len W.inp ∧ MX b len W.md) ∧ SP W.board W.md.now ∧ (W.pp.hasSaved = W.md.isSaved ∧ (W.md.isSaved = 0 ∨ (W.md.isSaved = 1 ∧ SP W.saved W.md.saved))) ∧ W.pp.refusal = W.md.reason ∧ HH W.hist W.bd W.md.history W.md.entries ∧ OI W.ol ∧ FC W ∧ Cs k W
/-- what reading leaves as it was -/
def RG (c : Nat) (W W' : Wd) : Prop := W'.pp = W.pp ∧ W'.board = W.board ∧ W'.saved = W.saved ∧ W'.hist = W.hist ∧ W'.inp = W.inp ∧ W'.md = W.md ∧ (∀ b B, W.bd b = some B → W'.bd b = some B) ∧ W'.kc ≤ W.kc + 6 * c ∧ W'.kn ≤ W.kn + 1154 * c ∧ W'.dyn.length ≤ W.dyn.length + c ∧ OI W'.ol ∧ FC W'
theorem RG.rf {W : Wd} (h1 : OI W.ol) (h2 : FC W) : RG 0 W W := ⟨rfl, rfl, rfl, rfl, rfl, rfl, fun _ _ h => h, by omega, by omega, by omega, h1, h2⟩
theorem RG.tr {c d : Nat} {W X Y : Wd} (h : RG c W X) (k : RG d X Y) : RG (c + d) W Y := by
  obtain ⟨a1, a2, a3, a4, a5, a6, a7, a8, a9, a10, a11, a12⟩ := h
  obtain ⟨b1, b2, b3, b4, b5, b6, b7, b8, b9, b10, b11, b12⟩ := k
  exact ⟨b1.trans a1, b2.trans a2, b3.trans a3, b4.trans a4, b5.trans a5, b6.trans a6, fun b B q => b7 b B (a7 b B q), by omega, by omega, by omega, b11, b12⟩
theorem FF.rg {c : Nat} {W W' : Wd} (h : FF c W W') (h1 : OI W.ol) (h2 : FC W') : RG c W W' := by
  obtain ⟨a1, a2, a3, a4, a5, a6, a7, a8, a9, a10, a11, a12⟩ := h
  exact ⟨a1, a2, a3, a4, a5, a7, a9, a10, a11, a12, by rw [a6]; exact h1, h2⟩
theorem FC.dy {W X : Wd} (h : FC W) (h1 : X.fps = W.fps) (h2 : X.dyn = W.dyn) : FC X := fun t a ht ha => by
  rw [h1] at ha
  obtain ⟨P, p1, p2⟩ := h t a ht ha
  exact ⟨P, by rw [fp_dyn h2]; exact p1, p2⟩
theorem thr_f (W : Wd) : ∃ X, W.thr = X ∧ X.pp = W.pp ∧ X.board = W.board ∧ X.saved = W.saved ∧ X.hist = W.hist ∧ X.inp = W.inp ∧ X.md = W.md ∧ X.dyn = W.dyn ∧ X.kc = W.kc + 1 ∧ X.kn = W.kn + 6 ∧ X.ol = W.ol ∧ X.fps = W.fps := ⟨_, rfl, rfl, rfl, rfl, rfl, rfl, rfl, rfl, rfl, rfl, rfl, rfl⟩
theorem RG.thr {W : Wd} (h1 : OI W.ol) (h2 : FC W) : RG 1 W W.thr := by
  obtain ⟨X, hX, a1, a2, a3, a4, a5, a6, a7, a8, a9, a10, a11⟩ := thr_f W
  rw [hX]
  exact ⟨a1, a2, a3, a4, a5, a6, fun b B q => by rw [bd_dyn a7]; exact q, by omega, by omega, by rw [a7]; omega, by rw [a10]; exact h1, h2.dy a11 a7⟩
theorem RG.ol {W : Wd} {o : Ol} (h1 : OI o) (h2 : FC W) : RG 0 W (W.w_ol o) := ⟨rfl, rfl, rfl, rfl, rfl, rfl, fun _ _ q => q, Nat.le_refl _, Nat.le_refl _, Nat.le_refl _, h1, h2.dy rfl rfl⟩
theorem HH.mono {h h' : Hs} {bd bd' : Nat → Option Bd} {H : Nat → Int32} {e : Int32} (k : HH h bd H e) (h1 : h' = h) (h2 : ∀ b B, bd b = some B → bd' b = some B) : HH h' bd' H e := by
  subst h1
  obtain ⟨k, o, a1, a2, a3, a4, a5, a6, a7, a8⟩ := k
  refine ⟨k, o, a1, a2, a3, a4, a5, fun i a hi ha => ?_, a7, fun i hi => ?_⟩
  · obtain ⟨B, hB⟩ := a6 i a hi ha
    exact ⟨B, h2 a B hB⟩
  · obtain ⟨a, B, b1, b2, b3⟩ := a8 i hi
    exact ⟨a, B, b1, h2 a B b2, b3⟩
theorem md_w (W : Wd) (o : Md) : ∃ X, W.w_md o = X ∧ X.pp = W.pp ∧ X.board = W.board ∧ X.saved = W.saved ∧ X.hist = W.hist ∧ X.inp = W.inp ∧ X.md = o ∧ X.dyn = W.dyn ∧ X.kc = W.kc ∧ X.kn = W.kn ∧ X.ol = W.ol ∧ X.fps = W.fps := ⟨_, rfl, rfl, rfl, rfl, rfl, rfl, rfl, rfl, rfl, rfl, rfl, rfl⟩
theorem Cs.up {c k : Nat} {W W' : Wd} (h : Cs k W) (h1 : W'.kc ≤ W.kc + 6 * c) (h2 : W'.kn ≤ W.kn + 1154 * c) (h3 : W'.dyn.length ≤ W.dyn.length + c) (hc : c ≤ 7) : Cs (k + 7) W' := by
  obtain ⟨a1, a2, a3⟩ := h
  exact ⟨by omega, by omega, by omega⟩
/-- a reader's turn -/
theorem Sim.read {k c : Nat} {W W' : Wd} {o : Md} (h : Sim k W) (f : RG c W W') (hc : c ≤ 7) (m : MO W.md o) : Sim (k + 7) (W'.w_md o) := by
  obtain ⟨⟨b, len, s1, s2⟩, s3, ⟨s4, s5⟩, s6, s7, s8, s9, s10⟩ := h
  obtain ⟨a1, a2, a3, a4, a5, a6, a7, a8, a9, a10, a11, a12⟩ := f
  obtain ⟨m1, m2, m3, m4, m5, m6, m7, m8⟩ := m
  obtain ⟨X, hX, x1, x2, x3, x4, x5, x6, x7, x8, x9, x10, x11⟩ := md_w W' o
  rw [hX]
  refine ⟨⟨b, len, ?_, ?_⟩, ?_, ⟨?_, ?_⟩, ?_, ?_, ?_, a12.dy x11 x7, s10.up (c := c) (by rw [x8]; exact a8) (by rw [x9]; exact a9) (by rw [x7]; exact a10) hc⟩
  · rw [x5, a5]; exact s1
  · rw [x6]; exact ⟨m8.trans s2.1, s2.2.1, fun i hi => by rw [m7]; exact s2.2.2 i hi⟩
  · rw [x2, a2, x6, m1]; exact s3
  · rw [x1, a1, x6, m6]; exact s4
  · rw [x6, m6, m2, x3, a3]; exact s5
  · rw [x1, a1, x6, m5]; exact s6
  · rw [x6, m3, m4]
    exact s7.mono (x4.trans a4) fun b B q => by rw [bd_dyn x7]; exact a7 b B q
  · rw [x10]; exact a11
/-- the answer of the class is the model's, and all goes on -/
def Ans (k : Nat) (F : Option (Int32 × Wd)) (Fm : Md → Option (Int32 × Md)) : Prop := ∃ v B u o, F = some (v, B) ∧ Fm B.md = some (u, o) ∧ o.thrown = v ∧ (v = 0 → B.out 0 = u.toInt64) ∧ Sim (k + 7) (B.w_md o)
/-- what is written out doesn't matter -/
theorem Sim.out {k : Nat} {B : Wd} {f : Nat → Int64} {o : Md} (h : Sim k (B.w_md o)) : Sim k ((B.w_out f).w_md o) := by
  obtain ⟨X, hX, x1, x2, x3, x4, x5, x6, x7, x8, x9, x10, x11⟩ := md_w B o
  obtain ⟨Y, hY, y1, y2, y3, y4, y5, y6, y7, y8, y9, y10, y11⟩ := md_w (B.w_out f) o
  rw [hX] at h
  rw [hY]
  obtain ⟨⟨b, len, s1, s2⟩, s3, ⟨s4, s5⟩, s6, s7, s8, s9, s10⟩ := h
  have e1 : Y.pp = X.pp := y1.trans x1.symm
  have e2 : Y.board = X.board := y2.trans x2.symm
  have e3 : Y.saved = X.saved := y3.trans x3.symm
  have e4 : Y.hist = X.hist := y4.trans x4.symm
  have e5 : Y.inp = X.inp := y5.trans x5.symm
  have e6 : Y.md = X.md := y6.trans x6.symm
  have e7 : Y.dyn = X.dyn := y7.trans x7.symm
  have e8 : Y.kc = X.kc := y8.trans x8.symm
  have e9 : Y.kn = X.kn := y9.trans x9.symm
  have e10 : Y.ol = X.ol := y10.trans x10.symm
  have e11 : Y.fps = X.fps := y11.trans x11.symm
  refine ⟨⟨b, len, by rw [e5]; exact s1, by rw [e6]; exact s2⟩, by rw [e2, e6]; exact s3, ⟨by rw [e1, e6]; exact s4, by rw [e6, e3]; exact s5⟩, by rw [e1, e6]; exact s6, ?_, by rw [e10]; exact s8, s9.dy e11 e7, ?_⟩
  · rw [e6]
    exact s7.mono e4 fun b B q => by rw [bd_dyn e7]; exact q
  · obtain ⟨c1, c2, c3⟩ := s10
    exact ⟨by rw [e7]; exact c1, by rw [e8]; exact c2, by rw [e9]; exact c3⟩
theorem ans_ok {k : Nat} {F : Option (Int32 × Wd)} {Fm : Md → Option (Int32 × Md)} {B : Wd} {u : Int32} {o : Md} (h1 : F = some (0, B.w_out (vp_updL B.out 0 u.toInt64))) (h2 : Fm B.md = some (u, o)) (h3 : o.thrown = 0) (h4 : Sim (k + 7) (B.w_md o)) : Ans k F Fm :=
  ⟨0, _, u, o, h1, h2, h3, fun _ => show vp_updL B.out 0 u.toInt64 0 = _ from pk_uLs, h4.out⟩
theorem ans_no {k : Nat} {F : Option (Int32 × Wd)} {Fm : Md → Option (Int32 × Md)} {B : Wd} {u v : Int32} {o : Md} (hv : ¬ v = 0) (h1 : F = some (v, B)) (h2 : Fm B.md = some (u, o)) (h3 : o.thrown = v) (h4 : Sim (k + 7) (B.w_md o)) : Ans k F Fm :=
  ⟨v, _, u, o, h1, h2, h3, fun h => absurd h hv, h4⟩
/-- where the answer is a truth value -/
def AnB (k : Nat) (F : Option (Int32 × Wd)) (Fm : Md → Option (Int32 × Md)) : Prop := ∃ v B u o, F = some (v, B) ∧ Fm B.md = some (u, o) ∧ o.thrown = v ∧ (v = 0 → B.out 0 = u.toInt64) ∧ Sim (k + 7) (B.w_md o) ∧ (u = 0 ∨ u = 1)
theorem bI_or (b : Bool) : bI b = 0 ∨ bI b = 1 := by cases b <;> decide
theorem anb_ok {k : Nat} {F : Option (Int32 × Wd)} {Fm : Md → Option (Int32 × Md)} {B : Wd} {u : Int32} {o : Md} (hu : u = 0 ∨ u = 1) (h1 : F = some (0, B.w_out (vp_updL B.out 0 u.toInt64))) (h2 : Fm B.md = some (u, o)) (h3 : o.thrown = 0) (h4 : Sim (k + 7) (B.w_md o)) : AnB k F Fm :=
  ⟨0, _, u, o, h1, h2, h3, fun _ => show vp_updL B.out 0 u.toInt64 0 = _ from pk_uLs, h4.out, hu⟩
theorem anb_no {k : Nat} {F : Option (Int32 × Wd)} {Fm : Md → Option (Int32 × Md)} {B : Wd} {v u : Int32} {o : Md} (hv : ¬ v = 0) (h1 : F = some (v, B)) (h2 : Fm B.md = some (u, o)) (h3 : o.thrown = v) (h4 : Sim (k + 7) (B.w_md o)) (hu : u = 0 ∨ u = 1 := by decide) : AnB k F Fm :=
  ⟨v, _, u, o, h1, h2, h3, fun h => absurd h hv, h4, hu⟩
/-- the model's checks -/
theorem m135t {M : Md} {c : Int32} : F_135 M (bI true) c = some (0, M) := rfl
theorem m135f {M : Md} {c : Int32} : F_135 M (bI false) c = some (1, M.w_thrown c) := rfl
theorem m180f {M : Md} {c d : Int32} : F_180 M 0 c d = some (0, M) := rfl
theorem m180t {M : Md} {c d : Int32} : F_180 M 1 c d = some (1, (M.w_reason c).w_thrown d) := rfl
/-- the class's checks -/
theorem c124 {W : Wd} {n E : Nat} (hB : CB n E W.board) (hn : n < 2 ^ 31) (x : Int32) : (isv n x = true ∧ F_124 W x = some (.inl (), W)) ∨ (isv n x = false ∧ F_124 W x = some (.inr 2, W.thr)) := by
  unfold F_124 J_124_0_j15
  rw [hB.1]
  unfold isv
  by_cases h0 : x < 0
  · right
    refine ⟨decide_eq_false fun ⟨h1, _⟩ => absurd h0 (by rw [Int32.not_lt]; exact h1), ?_⟩
    rw [if_pos h0]
  · by_cases h1 : x < nI n
    · left
      refine ⟨decide_eq_true ⟨by rw [← Int32.not_lt]; exact h0, h1⟩, ?_⟩
      rw [if_neg h0, if_pos h1]
    · right
      refine ⟨decide_eq_false fun ⟨_, h2⟩ => h1 h2, ?_⟩
      rw [if_neg h0, if_neg h1]
