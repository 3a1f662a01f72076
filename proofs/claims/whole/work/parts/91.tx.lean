/-! ===== THE TEXT'S CALLS ===== -/
def MC (M M' : Md) : Prop := M'.now = M.now ∧ M'.saved = M.saved ∧ M'.history = M.history ∧ M'.entries = M.entries ∧ M'.reason = M.reason ∧ M'.isSaved = M.isSaved
theorem MB.mc {M M' : Md} (h : MB M M') : MC M M' := ⟨h.1, h.2.1, h.2.2.1, h.2.2.2.1, h.2.2.2.2.1, h.2.2.2.2.2.1⟩
theorem MO.mc {M M' : Md} (h : MO M M') : MC M M' := ⟨h.1, h.2.1, h.2.2.1, h.2.2.2.1, h.2.2.2.2.1, h.2.2.2.2.2.1⟩
theorem MC.tr {A B C : Md} (h : MC A B) (k : MC B C) : MC A C := by
  obtain ⟨a1, a2, a3, a4, a5, a6⟩ := h
  obtain ⟨b1, b2, b3, b4, b5, b6⟩ := k
  exact ⟨b1.trans a1, b2.trans a2, b3.trans a3, b4.trans a4, b5.trans a5, b6.trans a6⟩
theorem MX.mo {b : Nat → Nat} {len : Nat} {M M' : Md} (h : MX b len M) (m : MO M M') : MX b len M' := by
  obtain ⟨m1, m2, m3, m4, m5, m6, m7, m8⟩ := m
  exact ⟨m8.trans h.1, h.2.1, fun i hi => by rw [m7]; exact h.2.2 i hi⟩
/-- the text changes, nothing else -/
theorem Sim.inp {k c : Nat} {W W' : Wd} {M' : Md} {b : Nat → Nat} {len : Nat} (h : Sim k W) (hT : TX b len W'.inp) (hM : MX b len M') (m : MC W.md M')
    (a1 : W'.pp = W.pp) (a2 : W'.board = W.board) (a3 : W'.saved = W.saved) (a4 : W'.hist = W.hist) (a5 : W'.dyn = W.dyn) (a6 : W'.kc ≤ W.kc + c) (a7 : W'.kn ≤ W.kn + 6 * c) (a8 : W'.ol = W.ol) (a9 : W'.fps = W.fps) (hc : c ≤ 7) : Sim (k + 7) (W'.w_md M') := by
  obtain ⟨-, s3, ⟨s4, s5⟩, s6, s7, s8, s9, s10⟩ := h
  obtain ⟨m1, m2, m3, m4, m5, m6⟩ := m
  obtain ⟨X, hX, x1, x2, x3, x4, x5, x6, x7, x8, x9, x10, x11⟩ := md_w W' M'
  rw [hX]
  refine ⟨⟨b, len, by rw [x5]; exact hT, by rw [x6]; exact hM⟩, by rw [x2, a2, x6, m1]; exact s3, ⟨by rw [x1, a1, x6, m6]; exact s4, by rw [x6, m6, m2, x3, a3]; exact s5⟩, by rw [x1, a1, x6, m5]; exact s6, ?_, by rw [x10, a8]; exact s8, s9.dy (x11.trans a9) (x7.trans a5), s10.up (c := c) (by rw [x8]; omega) (by rw [x9]; omega) (by rw [x7, a5]; omega) hc⟩
  rw [x6, m3, m4]
  exact s7.mono (x4.trans a4) fun b B q => by rw [bd_dyn (x7.trans a5)]; exact q
theorem inp_f (W : Wd) (o : Tx) : ∃ X, W.w_inp o = X ∧ X.pp = W.pp ∧ X.board = W.board ∧ X.saved = W.saved ∧ X.hist = W.hist ∧ X.inp = o ∧ X.md = W.md ∧ X.dyn = W.dyn ∧ X.kc = W.kc ∧ X.kn = W.kn ∧ X.ol = W.ol ∧ X.fps = W.fps := ⟨_, rfl, rfl, rfl, rfl, rfl, rfl, rfl, rfl, rfl, rfl, rfl, rfl⟩
section TXT
variable {b : Nat → Nat} {len k : Nat} {W : Wd}
def l20 (x1 x2 x3 x4 x5 : Int32) : List Nat := b4 x1 ++ (b4 x2 ++ (b4 x3 ++ (b4 x4 ++ b4 x5)))
theorem l20_m (x1 x2 x3 x4 x5 : Int32) : mls (m20 x1 x2 x3 x4 x5) 0 20 = l20 x1 x2 x3 x4 x5 := rfl
theorem l20_le (x1 x2 x3 x4 x5 : Int32) : cn (l20 x1 x2 x3 x4 x5) ≤ 20 := cn_le _
theorem c80 (hT : TX b len W.inp) (x1 x2 x3 x4 x5 : Int32) : (len + cn (l20 x1 x2 x3 x4 x5) ≤ 400 ∧ ∃ o, F_80 W x1 x2 x3 x4 x5 = some (.inl (nI (len + cn (l20 x1 x2 x3 x4 x5))), W.w_inp o) ∧ TX (ap (l20 x1 x2 x3 x4 x5) b len).1 (len + cn (l20 x1 x2 x3 x4 x5)) o) ∨ (400 < len + cn (l20 x1 x2 x3 x4 x5) ∧ F_80 W x1 x2 x3 x4 x5 = some (.inr 0, W.thr)) := by
  have hl := l20_le x1 x2 x3 x4 x5
  have h4 := hT.2.1
  have ec : cn (l20 x1 x2 x3 x4 x5) = cn (b4 x1) + cn (b4 x2) + cn (b4 x3) + cn (b4 x4) + cn (b4 x5) := by
    unfold l20
    rw [cn_app, cn_app, cn_app, cn_app]
    omega
  have e0 : W.inp.length + ((((nI (cn (b4 x1)) + nI (cn (b4 x2))) + nI (cn (b4 x3))) + nI (cn (b4 x4))) + nI (cn (b4 x5))) = nI (len + cn (l20 x1 x2 x3 x4 x5)) := by
    rw [hT.1, nI_add, nI_add, nI_add, nI_add, nI_add, ec]
  by_cases h : len + cn (l20 x1 x2 x3 x4 x5) ≤ 400
  · left
    obtain ⟨A, a1, a2⟩ := c64 hT x1 (by omega)
    obtain ⟨B, b1, b2⟩ := c64 a2 x2 (by rw [ap_len]; omega)
    obtain ⟨C, c1, c2⟩ := c64 b2 x3 (by rw [ap_len, ap_len]; omega)
    obtain ⟨D, d1, d2⟩ := c64 c2 x4 (by rw [ap_len, ap_len, ap_len]; omega)
    obtain ⟨E, e1, e2⟩ := c64 d2 x5 (by rw [ap_len, ap_len, ap_len, ap_len]; omega)
    have e3 : TX (ap (l20 x1 x2 x3 x4 x5) b len).1 (ap (l20 x1 x2 x3 x4 x5) b len).2 E := by
      unfold l20
      rw [ap_app, ap_app, ap_app, ap_app]
      exact e2
    rw [ap_len] at e3
    refine ⟨h, E, ?_, e3⟩
    unfold F_80
    rw [c63, Option.bind_some, c63, Option.bind_some, c63, Option.bind_some, c63, Option.bind_some, c63, Option.bind_some, e0, show (400 : Int32) = nI 400 from rfl, if_pos (nI_le h (by decide)), a1, Option.bind_some, Option.bind_some]
    rw [show (W.w_inp A).inp = A from rfl, b1, Option.bind_some, Option.bind_some, show ((W.w_inp A).w_inp B) = W.w_inp B from rfl]
    rw [show (W.w_inp B).inp = B from rfl, c1, Option.bind_some, Option.bind_some, show ((W.w_inp B).w_inp C) = W.w_inp C from rfl]
    rw [show (W.w_inp C).inp = C from rfl, d1, Option.bind_some, Option.bind_some, show ((W.w_inp C).w_inp D) = W.w_inp D from rfl]
    rw [show (W.w_inp D).inp = D from rfl, e1, Option.bind_some, Option.bind_some, show ((W.w_inp D).w_inp E) = W.w_inp E from rfl]
    show some (Sum.inl E.length, W.w_inp E) = _
    rw [e3.1]
  · right
    refine ⟨by omega, ?_⟩
    unfold F_80
    rw [c63, Option.bind_some, c63, Option.bind_some, c63, Option.bind_some, c63, Option.bind_some, c63, Option.bind_some, e0, show (400 : Int32) = nI 400 from rfl, if_neg (nI_ge (by omega) (by omega))]
theorem m139 {M : Md} (hM : MX b len M) (x1 x2 x3 x4 x5 : Int32) : (len + cn (l20 x1 x2 x3 x4 x5) ≤ 400 → ∃ o, F_139 M x1 x2 x3 x4 x5 = some (nI (len + cn (l20 x1 x2 x3 x4 x5)), o) ∧ MX (ap (l20 x1 x2 x3 x4 x5) b len).1 (len + cn (l20 x1 x2 x3 x4 x5)) o ∧ MC M o ∧ o.thrown = 0) ∧ (400 < len + cn (l20 x1 x2 x3 x4 x5) → ∃ o, F_139 M x1 x2 x3 x4 x5 = some (0, o) ∧ MX b len o ∧ MC M o ∧ o.thrown = 1) := by
  have hl := l20_le x1 x2 x3 x4 x5
  have h4 := hM.2.1
  obtain ⟨y, hy, y1, y2⟩ := md_thrown M 0
  have hMy := hM.mo y2
  have e0 : lw (G_139_11 y x1 x2 x3 x4 x5) 200000 (0, 0) = some (nI (cn (l20 x1 x2 x3 x4 x5))) := by
    have := m139c x1 x2 x3 x4 x5 y 20 0 0 200000 (by decide) (by decide)
    rw [l20_m, Nat.zero_add] at this
    exact this
  constructor
  · intro h
    obtain ⟨o, o1, o2, o3⟩ := m139l x1 x2 x3 x4 x5 20 0 200000 b len y (by decide) (by decide) hMy (by rw [l20_m]; exact h)
    rw [l20_m] at o2
    rw [ap_len] at o2
    refine ⟨o, ?_, o2, y2.mc.tr o3.mc, o3.2.2.2.2.2.2.trans y1⟩
    unfold F_139
    rw [hy, Option.bind_some, e0, Option.bind_some, hMy.1, nI_add, show (400 : Int32) = nI 400 from rfl, if_neg (nI_nlt (by omega) (by omega))]
    unfold J_139_0_j68
    rw [show F_135 y 1 1 = some (0, y) from rfl, Option.bind_some]
    show (lw (G_139_80 x1 x2 x3 x4 x5) 200000 (nI 0, y)).bind _ = _
    rw [o1, Option.bind_some, o2.1]
  · intro h
    obtain ⟨z, hz, z1', z2'⟩ := md_thrown y 1
    refine ⟨z, ?_, hMy.mo z2', (y2.tr z2').mc, z1'⟩
    unfold F_139
    rw [hy, Option.bind_some, e0, Option.bind_some, hMy.1, nI_add, show (400 : Int32) = nI 400 from rfl, if_pos (nI_lt h (by omega))]
    unfold J_139_0_j68
    rw [show F_135 y 0 1 = some (1, y.w_thrown 1) from rfl, Option.bind_some, hz]
    rfl
theorem op0 (h : Sim k W) (x1 x2 x3 x4 x5 : Int32) : Ans k (F_263 W x1 x2 x3 x4 x5) (fun M => F_139 M x1 x2 x3 x4 x5) := by
  obtain ⟨⟨b, len, hT, hM⟩, hr⟩ := id h
  obtain ⟨g1, g2⟩ := m139 hM x1 x2 x3 x4 x5
  rcases c80 hT x1 x2 x3 x4 x5 with ⟨h4, o, e1, e2⟩ | ⟨h4, e1⟩
  · obtain ⟨M', m1, m2, m3, m4⟩ := g1 h4
    obtain ⟨X, hX, a1, a2, a3, a4, a5, a6, a7, a8, a9, a10, a11⟩ := inp_f W o
    rw [hX] at e1
    refine ans_ok (B := X) (u := nI (len + cn (l20 x1 x2 x3 x4 x5))) (o := M') ?_ (by rw [a6]; exact m1) m4 (h.inp (c := 0) (by rw [a5]; exact e2) m2 m3 a1 a2 a3 a4 a7 (by omega) (by omega) a10 a11 (by decide))
    unfold F_263
    rw [e1]
    rfl
  · obtain ⟨M', m1, m2, m3, m4⟩ := g2 h4
    obtain ⟨X, hX, a1, a2, a3, a4, a5, a6, a7, a8, a9, a10, a11⟩ := thr_f W
    rw [hX] at e1
    refine ans_no (v := 1) (B := X) (u := 0) (o := M') (by decide) ?_ (by rw [a6]; exact m1) m4 (h.inp (c := 1) (by rw [a5]; exact hT) m2 m3 a1 a2 a3 a4 a7 (by omega) (by omega) a10 a11 (by decide))
    unfold F_263
    rw [e1]
    rfl
theorem le_nI {x : Int32} {m : Nat} (hm : m < 2 ^ 31) (h0 : 0 ≤ x) (h1 : x ≤ nI m) : ∃ a, a ≤ m ∧ x = nI a := by
  have h0' := Int32.le_iff_toInt_le.1 h0
  have h1' := Int32.le_iff_toInt_le.1 h1
  rw [nI_toInt hm] at h1'
  have z : (0 : Int32).toInt = 0 := by decide
  rw [z] at h0'
  refine ⟨x.toInt.toNat, by omega, ?_⟩
  apply Int32.toInt_inj.mp
  rw [nI_toInt (by omega)]
  omega
theorem op1 (h : Sim k W) (x : Int32) : Ans k (F_264 W x) (fun M => F_140 M x) := by
  obtain ⟨⟨b, len, hT, hM⟩, hr⟩ := id h
  obtain ⟨y, hy, y1, y2⟩ := md_thrown W.md 0
  have hMy := hM.mo y2
  have h4 := hM.2.1
  have e134 : F_134 x.toInt64 0 y.length.toInt64 = some (bI (decide (0 ≤ x ∧ x ≤ nI len))) := by
    rw [hMy.1]
    exact m134 x 0 (nI len)
  by_cases hx : 0 ≤ x ∧ x ≤ nI len
  · obtain ⟨a, ha, rfl⟩ := le_nI (by omega) hx.1 hx.2
    obtain ⟨o, ho, o1, o2⟩ := tx_len W.inp (nI a)
    obtain ⟨z, hz, z1', z2', z3'⟩ := md_len y (nI a)
    obtain ⟨X, hX, a1, a2, a3, a4, a5, a6, a7, a8, a9, a10, a11⟩ := inp_f W o
    refine ans_ok (B := X) (u := nI a) (o := z) ?_ ?_ (z3'.2.2.2.2.2.2.trans y1) (h.inp (c := 0) (len := a) (b := b) (by rw [a5]; exact ⟨o2, by omega, fun i hi => by rw [o1]; exact hT.2.2 i (by omega)⟩) ⟨z2', by omega, fun i hi => by rw [z1']; exact hMy.2.2 i (by omega)⟩ (y2.mc.tr z3'.mc) a1 a2 a3 a4 a7 (by omega) (by omega) a10 a11 (by decide))
    · unfold F_264 F_81
      rw [if_neg (by rw [Int32.not_lt]; exact hx.1), hT.1, if_pos hx.2, ho, Option.bind_some, Option.bind_some, hX, Option.bind_some]
      rfl
    · rw [a6]
      show F_140 W.md (nI a) = _
      unfold F_140
      rw [hy, Option.bind_some, e134, Option.bind_some, decide_eq_true hx, m135t, Option.bind_some]
      show (if (0 : Int32) = 0 then (some (y.w_length (nI a))).bind (fun B9 => some (nI a, B9)) else some (0, y)) = _
      rw [if_pos rfl, hz]
      rfl
  · obtain ⟨z, hz, z1', z2'⟩ := md_thrown y 1
    obtain ⟨X, hX, a1, a2, a3, a4, a5, a6, a7, a8, a9, a10, a11⟩ := thr_f W
    refine ans_no (v := 1) (B := X) (u := 0) (o := z) (by decide) ?_ ?_ z1' (h.inp (c := 1) (by rw [a5]; exact hT) (hMy.mo z2') (y2.tr z2').mc a1 a2 a3 a4 a7 (by omega) (by omega) a10 a11 (by decide))
    · have e : F_81 W x = some (.inr 1, X) := by
        unfold F_81 J_81_0_j15
        rw [hT.1, hX]
        by_cases h0 : x < 0
        · rw [if_pos h0]
        · rw [if_neg h0, if_neg (fun z => hx ⟨by rw [← Int32.not_lt]; exact h0, z⟩)]
      unfold F_264
      rw [e]
      rfl
    · rw [a6]
      show F_140 W.md x = _
      unfold F_140
      rw [hy, Option.bind_some, e134, Option.bind_some, decide_eq_false hx, m135f, hz, Option.bind_some]
      rfl
end TXT
