/-! ===== MORE CALLS ABOUT FAILING PILES ===== -/
section FPS
variable {k : Nat} {W : Wd}
theorem op26 (h : Sim k W) (hk : k < 90000) (x : Int32) : Ans k (F_284 W x) (fun M => F_215 M x) := by
  obtain ⟨y, hy, y1, y2⟩ := md_thrown W.md 0
  obtain ⟨n, E, pl, sc, tg, wt, pr, ⟨qB, qP, qS, qD, rM, rP, rS, r13, hG, hC, hO, h9⟩, hol, hfc, hd⟩ := h.op y2
  have hn := hG.2.1
  have h1 := hG.1
  have hE := hG.E_lt
  have h31 : ∀ v, v < 6 → pl v < 2 ^ 31 := fun v hv => by have := h9 v hv; omega
  have e172 : F_172 y x = some (bI (isv n x)) := m172 rM.1 (by omega) (by omega) x
  cases hv : isv n x with
  | true =>
    obtain ⟨v, hv', rfl⟩ := isv_of (by omega) hv
    rw [hv] at e172
    have hdy : W.dyn.length < 100000 := by omega
    obtain ⟨a, V, P, e129, vf, fR, fc, ff⟩ := c129 hfc qB qD hG hC hv' hdy
    have rg := ff.rg hol fc
    have vB : V.board = W.board := ff.2.1
    have vM : V.md = W.md := rg.2.2.2.2.2.1
    have vP : CP pl V.board := by rw [vB]; exact qP
    have vQ : CB n E V.board := by rw [vB]; exact qB
    obtain ⟨M', m1, m2, m3⟩ := m209 rM hG hC hv'
    have mm := m2.mo
    have rM' : MR n E M'.now := by rw [mm.1.1]; exact rM
    have rP' : MP pl M'.now := by rw [mm.1.1]; exact rP
    have hpv := h9 v (by omega)
    by_cases h0 : pl v = 0
    · cases hh : hold n E v pl with
      | true =>
        refine ans_no (v := 2) (B := V.thr) (u := 0) (o := M'.w_thrown 2) (by decide) ?_ ?_ rfl (h.exg rg (by decide) (y2.tr mm.1) 2)
        · have e : F_106 W (nI v) = some (.inr 4, V.thr) := by
            unfold F_106
            rw [c124t qB (by omega) hv', Option.bind_some]
            dsimp only
            rw [xq_l, e129, Option.bind_some]
            dsimp only
            rw [vf, Option.bind_some, ixn (by omega) (by decide), Option.bind_some, vP v (by omega)]
            rw [if_neg (by rw [h0]; decide), c43 vf fR vP h31 hG hC hv', hh]
            rfl
          unfold F_284
          rw [e]
          rfl
        · show F_215 V.md (nI v) = _
          rw [vM]
          show F_215 W.md (nI v) = _
          unfold F_215
          rw [hy, Option.bind_some, e172, Option.bind_some, m135t, Option.bind_some]
          dsimp only
          rw [if_neg (show ¬ ¬ (0 : Int32) = 0 from fun z => z rfl), m176 rP (by omega), Option.bind_some]
          rw [if_neg (by rw [h0]; exact fun z => z rfl)]
          unfold J_215_0_j32
          rw [show F_135 y 1 2 = some (0, y) from rfl, Option.bind_some]
          dsimp only
          rw [if_pos rfl, m1, Option.bind_some, m210 rM' rP' m3 h31 hG hC hv', hh, Option.bind_some]
          rfl
      | false =>
        refine ans_ok (B := V) (u := pI (nxm n E v pl)) (o := M') ?_ ?_ (mm.2.trans y1) (h.read rg (by decide) (y2.tr mm.1))
        · have e : F_106 W (nI v) = some (.inl (pI (nxm n E v pl)), V) := by
            unfold F_106
            rw [c124t qB (by omega) hv', Option.bind_some]
            dsimp only
            rw [xq_l, e129, Option.bind_some]
            dsimp only
            rw [vf, Option.bind_some, ixn (by omega) (by decide), Option.bind_some, vP v (by omega)]
            rw [if_neg (by rw [h0]; decide), c43 vf fR vP h31 hG hC hv', hh, Option.bind_some, if_pos (by decide), c130 vf fR vQ vP h9 hG hC hv']
            rfl
          unfold F_284
          rw [e]
          rfl
        · show F_215 V.md (nI v) = _
          rw [vM]
          show F_215 W.md (nI v) = _
          unfold F_215
          rw [hy, Option.bind_some, e172, Option.bind_some, m135t, Option.bind_some]
          dsimp only
          rw [if_neg (show ¬ ¬ (0 : Int32) = 0 from fun z => z rfl), m176 rP (by omega), Option.bind_some]
          rw [if_neg (by rw [h0]; exact fun z => z rfl)]
          unfold J_215_0_j32
          rw [show F_135 y 1 2 = some (0, y) from rfl, Option.bind_some]
          dsimp only
          rw [if_pos rfl, m1, Option.bind_some, m210 rM' rP' m3 h31 hG hC hv', hh, Option.bind_some]
          rw [show F_135 M' (bI (!false)) 2 = some (0, M') from rfl, Option.bind_some]
          dsimp only
          rw [if_pos rfl, m214 rM' rP' m3 h9 hG hC hv']
          rfl
    · refine ans_no (v := 2) (B := V.thr) (u := 0) (o := y.w_thrown 2) (by decide) ?_ ?_ rfl (h.exg rg (by decide) y2 2)
      · have e : F_106 W (nI v) = some (.inr 4, V.thr) := by
          unfold F_106
          rw [c124t qB (by omega) hv', Option.bind_some]
          dsimp only
          rw [xq_l, e129, Option.bind_some]
          dsimp only
          rw [vf, Option.bind_some, ixn (by omega) (by decide), Option.bind_some, vP v (by omega)]
          rw [if_pos (show (0 : Int32) < nI (pl v) from nI_lt (a := 0) (by omega) (by omega))]
          rfl
        unfold F_284
        rw [e]
        rfl
      · show F_215 V.md (nI v) = _
        rw [vM]
        show F_215 W.md (nI v) = _
        unfold F_215
        rw [hy, Option.bind_some, e172, Option.bind_some, m135t, Option.bind_some]
        dsimp only
        rw [if_neg (show ¬ ¬ (0 : Int32) = 0 from fun z => z rfl), m176 rP (by omega), Option.bind_some]
        rw [if_pos (nI_ne0 (by omega) (by omega))]
        rfl
  | false =>
    rw [hv] at e172
    refine ans_no (v := 1) (B := W.thr) (u := 0) (o := y.w_thrown 1) (by decide) ?_ ?_ rfl (h.ex y2 1)
    · unfold F_284 F_106
      rw [c124f qB (by omega) hv]
      rfl
    · show F_215 W.md x = _
      unfold F_215
      rw [hy, Option.bind_some, e172, Option.bind_some, m135f]
      rfl
theorem op33 (h : Sim k W) (hk : k < 90000) (x z : Int32) : Ans k (F_289 W x z) (fun M => F_234 M x z) := by
  obtain ⟨y, hy, y1, y2⟩ := md_thrown W.md 0
  obtain ⟨n, E, pl, sc, tg, wt, pr, ⟨qB, qP, qS, qD, rM, rP, rS, r13, hG, hC, hO, h9⟩, hol, hfc, hd⟩ := h.op y2
  have hn := hG.2.1
  have h1 := hG.1
  have hE := hG.E_lt
  have h31 : ∀ v, v < 6 → pl v < 2 ^ 31 := fun v hv => by have := h9 v hv; omega
  have e172 : F_172 y x = some (bI (isv n x)) := m172 rM.1 (by omega) (by omega) x
  cases hv : isv n x with
  | true =>
    obtain ⟨v, hv', rfl⟩ := isv_of (by omega) hv
    rw [hv] at e172
    have e134 : F_134 z.toInt64 0 (99 : Int64) = some (bI (decide (0 ≤ z ∧ z ≤ 99))) := m134 z 0 99
    by_cases hz : 0 ≤ z ∧ z ≤ 99
    · obtain ⟨q, hq, rfl⟩ := le_nI (m := 99) (by decide) hz.1 hz.2
      rw [decide_eq_true hz] at e134
      have hdy : W.dyn.length < 100000 := by omega
      obtain ⟨a, V, P, e129, vf, fR, fc, ff⟩ := c129 hfc qB qD hG hC hv' hdy
      have rg := ff.rg hol fc
      have vB : V.board = W.board := ff.2.1
      have vM : V.md = W.md := rg.2.2.2.2.2.1
      have vP : CP pl V.board := by rw [vB]; exact qP
      have vQ : CB n E V.board := by rw [vB]; exact qB
      obtain ⟨M', m1, m2, m3⟩ := m209 rM hG hC hv'
      have mm := m2.mo
      have rM' : MR n E M'.now := by rw [mm.1.1]; exact rM
      have rP' : MP pl M'.now := by rw [mm.1.1]; exact rP
      obtain ⟨c0, u1, u2, u3, u4, u5, u6, u7, u8, u9, u10⟩ := fR.use hG hC hv'
      refine ans_ok (B := V) (u := nI (ct (skf n E v q) (2 ^ sm (ds n E v) n))) (o := M') ?_ ?_ (mm.2.trans y1) (h.read rg (by decide) (y2.tr mm.1))
      · have e : F_113 W (nI v) (nI q) = some (.inl (nI (ct (skf n E v q) (2 ^ sm (ds n E v) n))), V) := by
          unfold F_113
          rw [c124t qB (by omega) hv', Option.bind_some]
          dsimp only
          rw [xq_l, if_neg (by rw [Int32.not_lt]; exact hz.1), if_pos hz.2, e129, Option.bind_some]
          dsimp only
          rw [vf, Option.bind_some, ixn (by omega) (by decide), Option.bind_some, u7 q (by omega)]
        unfold F_289
        rw [e]
        rfl
      · rw [vM]
        show F_234 W.md (nI v) (nI q) = _
        unfold F_234
        rw [hy, Option.bind_some, e172, Option.bind_some, m135t, Option.bind_some]
        dsimp only
        rw [if_neg (show ¬ ¬ (0 : Int32) = 0 from fun z => z rfl), e134, Option.bind_some, m135t, Option.bind_some]
        dsimp only
        rw [if_pos rfl, m1, Option.bind_some, m232 m3 hG hC hv' (by omega)]
        rfl
    · rw [decide_eq_false hz] at e134
      refine ans_no (v := 2) (B := W.thr) (u := 0) (o := y.w_thrown 2) (by decide) ?_ ?_ rfl (h.ex y2 2)
      · have e : F_113 W (nI v) z = some (.inr 1, W.thr) := by
          unfold F_113 J_113_0_j15
          rw [c124t qB (by omega) hv', Option.bind_some]
          dsimp only
          rw [xq_l]
          by_cases h0 : z < 0
          · rw [if_pos h0]
          · rw [if_neg h0, if_neg (fun q => hz ⟨by rw [← Int32.not_lt]; exact h0, q⟩)]
        unfold F_289
        rw [e]
        rfl
      · show F_234 W.md (nI v) z = _
        unfold F_234
        rw [hy, Option.bind_some, e172, Option.bind_some, m135t, Option.bind_some]
        dsimp only
        rw [if_neg (show ¬ ¬ (0 : Int32) = 0 from fun z => z rfl), e134, Option.bind_some, m135f]
        rfl
  | false =>
    rw [hv] at e172
    refine ans_no (v := 1) (B := W.thr) (u := 0) (o := y.w_thrown 1) (by decide) ?_ ?_ rfl (h.ex y2 1)
    · unfold F_289 F_113
      rw [c124f qB (by omega) hv]
      rfl
    · show F_234 W.md x z = _
      unfold F_234
      rw [hy, Option.bind_some, e172, Option.bind_some, m135f]
      rfl
theorem mxk_le {n E t : Nat} (hG : Gr n E) (hC : Cn n E) (ht : t < n) : mxk n E t ≤ 57 := mxl_le (Nat.zero_le _) fun d hd => by
  show (if _ then _ else _) ≤ _
  split
  · exact tot_57 hG hC ht
  · exact Nat.zero_le _
theorem op30 (h : Sim k W) (hk : k < 90000) : ∃ v B o, F_110 W = some (v, B) ∧ F_229 B.md = some (v, o) ∧ Sim (k + 7) (B.w_md o) := by
  obtain ⟨y, hy, y1, y2⟩ := md_thrown W.md 0
  obtain ⟨n, E, pl, sc, tg, wt, pr, ⟨qB, qP, qS, qD, rM, rP, rS, r13, hG, hC, hO, h9⟩, hol, hfc, hd⟩ := h.op y2
  have hn := hG.2.1
  have h1 := hG.1
  have hE := hG.E_lt
  have h31 : ∀ v, v < 6 → pl v < 2 ^ 31 := fun v hv => by have := h9 v hv; omega
  have hdy : W.dyn.length < 99000 := by omega
  have cl := lw_for (f := G_110_4) (n := n) (fun i (s : Int32 × Int32 × Wd) => s.1 = nI (mxl (fun t => mxk n E t + 1) 0 i) ∧ s.2.1 = nI i ∧ RG i W s.2.2) (Q := fun r => r.1 = nI (mxl (fun t => mxk n E t + 1) 0 n) ∧ RG n W r.2) ?_ ?_ (k := 200000) (s := ((0 : Int32), (0 : Int32), W)) ⟨rfl, rfl, RG.rf hol hfc⟩ (by omega)
  · have ml := lw_for (f := G_229_9) (n := n) (fun i (s : Int32 × Int32 × Md) => s.1 = nI (mxl (fun t => mxk n E t + 1) 0 i) ∧ s.2.1 = nI i ∧ MO y s.2.2 ∧ s.2.2.thrown = y.thrown) (Q := fun r => r.1 = nI (mxl (fun t => mxk n E t + 1) 0 n) ∧ MO y r.2 ∧ r.2.thrown = y.thrown) ?_ ?_ (k := 200000) (s := ((0 : Int32), (0 : Int32), y)) ⟨rfl, rfl, MO.rf y, rfl⟩ (by omega)
    · obtain ⟨⟨a, V⟩, e1, rfl, rg⟩ := cl
      obtain ⟨⟨b, o⟩, e2, rfl, mo, -⟩ := ml
      refine ⟨nI (mxl (fun t => mxk n E t + 1) 0 n), V, o, ?_, ?_, h.read rg (by omega) (y2.tr mo)⟩
      · unfold F_110
        rw [e1]
        rfl
      · rw [rg.2.2.2.2.2.1]
        unfold F_229
        rw [hy, Option.bind_some, e2]
        rfl
    · rintro i ⟨a, c, X⟩ hi ⟨rfl, rfl, p3, p4⟩
      left
      have k1 := mxl_le (f := fun t => mxk n E t + 1) (b := 58) (Nat.zero_le _) (i := i) (fun j hj => Nat.succ_le_succ (mxk_le hG hC (by omega)))
      have k2 := mxk_le hG hC hi
      have rX : MR n E X.now := by rw [p3.1]; exact rM
      obtain ⟨Z, f1, f2, f3⟩ := m227k rX hG hC hi
      have mm := f2.mo
      refine ⟨(nI (mxl (fun t => mxk n E t + 1) 0 (i + 1)), nI (i + 1), Z), ?_, rfl, rfl, p3.tr mm.1, mm.2.trans p4⟩
      simp only [G_229_9]
      rw [show ix 0 93 = some 0 from rfl, Option.bind_some, rX.1, if_neg (nI_ge hi (by omega)), f1, Option.bind_some]
      show some (Sum.inl (imx (nI (mxl (fun t => mxk n E t + 1) 0 i)) (nI (mxk n E i + 1)), nI i + 1, Z)) = _
      rw [imx_n (by omega) (by omega), nI_1, mxl]
    · rintro ⟨a, c, X⟩ ⟨rfl, rfl, p3, p4⟩
      have rX : MR n E X.now := by rw [p3.1]; exact rM
      refine ⟨(nI (mxl (fun t => mxk n E t + 1) 0 n), X), ?_, rfl, p3, p4⟩
      simp only [G_229_9]
      rw [show ix 0 93 = some 0 from rfl, Option.bind_some, rX.1, if_pos (nI_le (Nat.le_refl _) (by omega))]
  · rintro i ⟨a, c, X⟩ hi ⟨rfl, rfl, p3⟩
    left
    have k1 := mxl_le (f := fun t => mxk n E t + 1) (b := 58) (Nat.zero_le _) (i := i) (fun j hj => Nat.succ_le_succ (mxk_le hG hC (by omega)))
    have k2 := mxk_le hG hC hi
    have xB : CB n E X.board := by rw [p3.2.1]; exact qB
    have xD : CD n E X.board := by rw [p3.2.1]; exact qD
    obtain ⟨g1, g2, g3, g4, g5, g6, g7, g8, g9, g10, g11, g12⟩ := id p3
    obtain ⟨a, V, P, e129, vf, fR, fc, ff⟩ := c129 g12 xB xD hG hC hi (by omega)
    obtain ⟨c0, u1, u2⟩ := fR.use hG hC hi
    refine ⟨(nI (mxl (fun t => mxk n E t + 1) 0 (i + 1)), nI (i + 1), V), ?_, rfl, rfl, p3.tr (ff.rg g11 fc)⟩
    simp only [G_110_4]
    rw [xB.1, if_neg (nI_ge hi (by omega)), e129, Option.bind_some]
    show (V.fp a).bind _ = _
    rw [vf, Option.bind_some, u1, imx_n (by omega) (by omega), nI_1, mxl]
  · rintro ⟨a, c, X⟩ ⟨rfl, rfl, p3⟩
    have xB : CB n E X.board := by rw [p3.2.1]; exact qB
    refine ⟨(nI (mxl (fun t => mxk n E t + 1) 0 n), X), ?_, rfl, p3⟩
    simp only [G_110_4]
    rw [xB.1, if_pos (nI_le (Nat.le_refl _) (by omega))]
/-- the targets that can be reached, as bits -/
def hms (n E : Nat) (p : Nat → Nat) : Nat → Nat
  | 0 => 0
  | i + 1 => hms n E p i ||| if hold n E i p then 0 else 1 <<< i
theorem op25 (h : Sim k W) (hk : k < 90000) : ∃ v B o, F_105 W = some (v, B) ∧ F_212 B.md = some (v, o) ∧ Sim (k + 7) (B.w_md o) := by
  obtain ⟨y, hy, y1, y2⟩ := md_thrown W.md 0
  obtain ⟨n, E, pl, sc, tg, wt, pr, ⟨qB, qP, qS, qD, rM, rP, rS, r13, hG, hC, hO, h9⟩, hol, hfc, hd⟩ := h.op y2
  have hn := hG.2.1
  have h1 := hG.1
  have hE := hG.E_lt
  have h31 : ∀ v, v < 6 → pl v < 2 ^ 31 := fun v hv => by have := h9 v hv; omega
  have hdy : W.dyn.length < 99000 := by omega
  have cl := lw_for (f := G_105_4) (n := n) (fun i (s : Int32 × Int32 × Wd) => s.1 = nI (hms n E pl i) ∧ s.2.1 = nI i ∧ RG i W s.2.2) (Q := fun r => r.1 = nI (hms n E pl n) ∧ RG n W r.2) ?_ ?_ (k := 200000) (s := ((0 : Int32), (0 : Int32), W)) ⟨rfl, rfl, RG.rf hol hfc⟩ (by omega)
  · have ml := lw_for (f := G_212_9) (n := n) (fun i (s : Int32 × Int32 × Md) => s.1 = nI (hms n E pl i) ∧ s.2.1 = nI i ∧ MO y s.2.2 ∧ s.2.2.thrown = y.thrown) (Q := fun r => r.1 = nI (hms n E pl n) ∧ MO y r.2 ∧ r.2.thrown = y.thrown) ?_ ?_ (k := 200000) (s := ((0 : Int32), (0 : Int32), y)) ⟨rfl, rfl, MO.rf y, rfl⟩ (by omega)
    · obtain ⟨⟨a, V⟩, e1, rfl, rg⟩ := cl
      obtain ⟨⟨b, o⟩, e2, rfl, mo, -⟩ := ml
      refine ⟨nI (hms n E pl n), V, o, ?_, ?_, h.read rg (by omega) (y2.tr mo)⟩
      · unfold F_105
        rw [e1]
        rfl
      · rw [rg.2.2.2.2.2.1]
        unfold F_212
        rw [hy, Option.bind_some, e2]
        rfl
    · rintro i ⟨a, c, X⟩ hi ⟨rfl, rfl, p3, p4⟩
      left
      have rX : MR n E X.now := by rw [p3.1]; exact rM
      obtain ⟨Z, f1, f2, f3⟩ := m209 rX hG hC hi
      have mm := f2.mo
      have rZ : MR n E Z.now := by rw [mm.1.1]; exact rX
      have rQ : MP pl Z.now := by rw [mm.1.1, p3.1]; exact rP
      refine ⟨(nI (hms n E pl (i + 1)), nI (i + 1), Z), ?_, rfl, rfl, p3.tr mm.1, mm.2.trans p4⟩
      simp only [G_212_9, J_212_9_j40]
      rw [show ix 0 93 = some 0 from rfl, Option.bind_some, rX.1, if_neg (nI_ge hi (by omega)), f1, Option.bind_some, m210 rZ rQ f3 h31 hG hC hi, Option.bind_some]
      show _ = some (Sum.inl (nI (hms n E pl i ||| if hold n E i pl then 0 else 1 <<< i), nI (i + 1), Z))
      cases hold n E i pl with
      | true => rw [if_pos (by decide), if_pos rfl, nI_1, show (0 : Int32) = nI 0 from rfl, fa_or]
      | false => rw [if_neg (by decide), if_neg (by decide), nI_1, show (1 : Int32) = nI 1 from rfl, shl_n 1 (by omega), fa_or]
    · rintro ⟨a, c, X⟩ ⟨rfl, rfl, p3, p4⟩
      have rX : MR n E X.now := by rw [p3.1]; exact rM
      refine ⟨(nI (hms n E pl n), X), ?_, rfl, p3, p4⟩
      simp only [G_212_9]
      rw [show ix 0 93 = some 0 from rfl, Option.bind_some, rX.1, if_pos (nI_le (Nat.le_refl _) (by omega))]
  · rintro i ⟨a, c, X⟩ hi ⟨rfl, rfl, p3⟩
    left
    have xB : CB n E X.board := by rw [p3.2.1]; exact qB
    have xD : CD n E X.board := by rw [p3.2.1]; exact qD
    obtain ⟨g1, g2, g3, g4, g5, g6, g7, g8, g9, g10, g11, g12⟩ := id p3
    obtain ⟨a, V, P, e129, vf, fR, fc, ff⟩ := c129 g12 xB xD hG hC hi (by omega)
    have vP : CP pl V.board := by rw [ff.2.1, g2]; exact qP
    refine ⟨(nI (hms n E pl (i + 1)), nI (i + 1), V), ?_, rfl, rfl, p3.tr (ff.rg g11 fc)⟩
    simp only [G_105_4, J_105_4_j39]
    rw [xB.1, if_neg (nI_ge hi (by omega)), e129, Option.bind_some]
    show (V.fp a).bind _ = _
    rw [vf, Option.bind_some, c43 vf fR vP h31 hG hC hi, Option.bind_some]
    show _ = some (Sum.inl (nI (hms n E pl i ||| if hold n E i pl then 0 else 1 <<< i), nI (i + 1), V))
    cases hold n E i pl with
    | true => rw [if_pos (by decide), if_pos rfl, nI_1, Nat.or_zero]
    | false => rw [if_neg (by decide), if_neg (by decide), nI_1, show (1 : Int32) = nI 1 from rfl, shl_n 1 (by omega), fa_or]
  · rintro ⟨a, c, X⟩ ⟨rfl, rfl, p3⟩
    have xB : CB n E X.board := by rw [p3.2.1]; exact qB
    refine ⟨(nI (hms n E pl n), X), ?_, rfl, p3⟩
    simp only [G_105_4]
    rw [xB.1, if_pos (nI_le (Nat.le_refl _) (by omega))]
end FPS
