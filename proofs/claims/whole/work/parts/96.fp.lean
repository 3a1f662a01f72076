/-! ===== THE CALLS ABOUT FAILING PILES ===== -/
section FPR
variable {k : Nat} {W : Wd} {n E t : Nat}
/-- the greatest failing pile -/
def mxk (n E t : Nat) : Nat := mxl (fun c => if fa n (ad E) (ds n E t) c = true then tot (ds n E t) n c else 0) 0 (2 ^ sm (ds n E t) n)
theorem mxk_eq {j : Nat} (h1 : ∀ c, c < 2 ^ sm (ds n E t) n → fa n (ad E) (ds n E t) c = true → tot (ds n E t) n c ≤ j) (h2 : ∃ c, c < 2 ^ sm (ds n E t) n ∧ skf n E t j c = true) : j = mxk n E t := by
  obtain ⟨c, c1, c2⟩ := h2
  obtain ⟨c3, c4⟩ := (Bool.and_eq_true _ _).mp c2
  have c5 := of_decide_eq_true c4
  have l1 := mxl_mem (f := fun c => if fa n (ad E) (ds n E t) c = true then tot (ds n E t) n c else 0) (c := 0) c1
  have l2 : mxk n E t ≤ j := mxl_le (Nat.zero_le _) fun d hd => by
    show (if _ then _ else _) ≤ _
    split
    · next q => exact h1 d hd q
    · exact Nat.zero_le _
  have l3 : (if fa n (ad E) (ds n E t) c = true then tot (ds n E t) n c else 0) ≤ mxk n E t := l1
  rw [if_pos c3] at l3
  omega
theorem FR.use {P : FP} (hP : FR n E t P) (hG : Gr n E) (hC : Cn n E) (ht : t < n) : ∃ c0, P.leastNumber = nI (mxk n E t + 1) ∧ P.worstCount = nI (ct (skf n E t (mxk n E t)) (2 ^ sm (ds n E t) n)) ∧ P.firstWorst = nI c0 ∧ c0 < 2 ^ sm (ds n E t) n ∧ skf n E t (mxk n E t) c0 = true ∧ (∀ c, c < 2 ^ sm (ds n E t) n → skf n E t (mxk n E t) c = true → c0 ≤ c) ∧ (∀ j, j < 100 → P.howMany j = nI (ct (skf n E t j) (2 ^ sm (ds n E t) n))) ∧ mxk n E t ≤ 57 ∧ 2 ^ sm (ds n E t) n ≤ 32768 ∧ ∀ c v, c < 32768 → v < n → F_41 P (nI c) (nI v) = some (nI (dg (ds n E t) n c v)) := by
  have h15 := (ds_15 hG hC ht).1
  have hN : 2 ^ sm (ds n E t) n ≤ 32768 := pw_lt h15
  obtain ⟨ln, wc, fw, hm, li, sh, nr, mk, j, c0, rfl, g1, g2, g3, g4, g5, g6, g7, g8, g9, g10⟩ := hP
  obtain rfl := mxk_eq g3 ⟨c0, g7, g8⟩
  have hk : mxk n E t ≤ 57 := by
    have := of_decide_eq_true ((Bool.and_eq_true _ _).mp g8).2
    have := tot_57 (c := c0) hG hC ht
    omega
  exact ⟨c0, g4, g5, g6, g7, g8, g9, g10, hk, hN, fun c v hc hv => c41 ⟨rfl, rfl, g1⟩ hG.2.1 h15 hc hv⟩
theorem m227k {M : Md} (hM : MR n E M.now) (h : Gr n E) (hc : Cn n E) (ht : t < n) : ∃ M', F_227 M (nI t) = some (nI (mxk n E t + 1), M') ∧ MF M M' ∧ TB n E t M' := by
  obtain ⟨M', j, a1, a2, a3, a4, a5, a6⟩ := m227 hM h hc ht
  obtain rfl := mxk_eq a5 a6
  exact ⟨M', a1, a2, a3⟩
theorem op29 (h : Sim k W) (hk : k < 90000) (x : Int32) : Ans k (F_286 W x) (fun M => F_228 M x) := by
  obtain ⟨y, hy, y1, y2⟩ := md_thrown W.md 0
  obtain ⟨n, E, pl, sc, tg, wt, pr, ⟨qB, qP, qS, qD, rM, rP, rS, r13, hG, hC, hO, h9⟩, hol, hfc, hd⟩ := h.op y2
  have hn := hG.2.1
  have h1 := hG.1
  have hE := hG.E_lt
  have h31 : ∀ v, v < 6 → pl v < 2 ^ 31 := fun v hv => by have := h9 v hv; omega
  have e172 : F_172 y x = some (bI (isv n x)) := m172 rM.1 (by omega) (by omega) x
  cases hv : isv n x with
  | true =>
    obtain ⟨v, hv', rfl⟩ := isv_of (by omega) hv
    rw [hv] at e172
    have hdy : W.dyn.length < 100000 := by omega
    obtain ⟨a, V, P, e129, vf, fR, fc, ff⟩ := c129 hfc qB qD hG hC hv' hdy
    have rg := ff.rg hol fc
    have vB : V.board = W.board := ff.2.1
    obtain ⟨c0, u1, u2, u3, u4, u5, u6, u7, u8, u9, u10⟩ := fR.use hG hC hv'
    obtain ⟨M', m1, m2, m3⟩ := m227k rM hG hC hv'
    have mm := m2.mo
    refine ans_ok (B := V) (u := nI (mxk n E v + 1)) (o := M') ?_ ?_ (mm.2.trans y1) (h.read rg (by decide) (y2.tr mm.1))
    · have e : F_109 W (nI v) = some (.inl (nI (mxk n E v + 1)), V) := by
        unfold F_109
        rw [c124t qB (by omega) hv']
        rw [Option.bind_some]
        dsimp only
        rw [xq_l, e129, Option.bind_some]
        dsimp only
        rw [vf, Option.bind_some]
        rw [u1]
      unfold F_286
      rw [e]
      rfl
    · show F_228 V.md (nI v) = _
      rw [rg.2.2.2.2.2.1]
      unfold F_228
      rw [hy, Option.bind_some, e172, Option.bind_some, m135t, Option.bind_some]
      dsimp only
      rw [if_pos rfl, m1]
      rfl
  | false =>
    rw [hv] at e172
    refine ans_no (v := 1) (B := W.thr) (u := 0) (o := y.w_thrown 1) (by decide) ?_ ?_ rfl (h.ex y2 1)
    · unfold F_286 F_109
      rw [c124f qB (by omega) hv]
      rfl
    · show F_228 W.md x = _
      unfold F_228
      rw [hy, Option.bind_some, e172, Option.bind_some, m135f]
      rfl
theorem op32 (h : Sim k W) (hk : k < 90000) (x : Int32) : Ans k (F_288 W x) (fun M => F_233 M x) := by
  obtain ⟨y, hy, y1, y2⟩ := md_thrown W.md 0
  obtain ⟨n, E, pl, sc, tg, wt, pr, ⟨qB, qP, qS, qD, rM, rP, rS, r13, hG, hC, hO, h9⟩, hol, hfc, hd⟩ := h.op y2
  have hn := hG.2.1
  have h1 := hG.1
  have hE := hG.E_lt
  have h31 : ∀ v, v < 6 → pl v < 2 ^ 31 := fun v hv => by have := h9 v hv; omega
  have e172 : F_172 y x = some (bI (isv n x)) := m172 rM.1 (by omega) (by omega) x
  cases hv : isv n x with
  | true =>
    obtain ⟨v, hv', rfl⟩ := isv_of (by omega) hv
    rw [hv] at e172
    have hdy : W.dyn.length < 100000 := by omega
    obtain ⟨a, V, P, e129, vf, fR, fc, ff⟩ := c129 hfc qB qD hG hC hv' hdy
    have rg := ff.rg hol fc
    have vB : V.board = W.board := ff.2.1
    obtain ⟨c0, u1, u2, u3, u4, u5, u6, u7, u8, u9, u10⟩ := fR.use hG hC hv'
    obtain ⟨M', m1, m2, m3⟩ := m227k rM hG hC hv'
    have mm := m2.mo
    refine ans_ok (B := V) (u := nI (ct (skf n E v (mxk n E v)) (2 ^ sm (ds n E v) n))) (o := M') ?_ ?_ (mm.2.trans y1) (h.read rg (by decide) (y2.tr mm.1))
    · have e : F_112 W (nI v) = some (.inl (nI (ct (skf n E v (mxk n E v)) (2 ^ sm (ds n E v) n))), V) := by
        unfold F_112
        rw [c124t qB (by omega) hv']
        rw [Option.bind_some]
        dsimp only
        rw [xq_l, e129, Option.bind_some]
        dsimp only
        rw [vf, Option.bind_some]
        rw [u2]
      unfold F_288
      rw [e]
      rfl
    · show F_233 V.md (nI v) = _
      rw [rg.2.2.2.2.2.1]
      unfold F_233
      rw [hy, Option.bind_some, e172, Option.bind_some, m135t, Option.bind_some]
      dsimp only
      rw [if_pos rfl, m1, Option.bind_some]
      dsimp only
      rw [z1, pk_sub (by omega), Nat.add_sub_cancel, m232 m3 hG hC hv' (by omega)]
      rfl
  | false =>
    rw [hv] at e172
    refine ans_no (v := 1) (B := W.thr) (u := 0) (o := y.w_thrown 1) (by decide) ?_ ?_ rfl (h.ex y2 1)
    · unfold F_288 F_112
      rw [c124f qB (by omega) hv]
      rfl
    · show F_233 W.md x = _
      unfold F_233
      rw [hy, Option.bind_some, e172, Option.bind_some, m135f]
      rfl
theorem op31 (h : Sim k W) (hk : k < 90000) (x z : Int32) : Ans k (F_287 W x z) (fun M => F_231 M x z) := by
  obtain ⟨y, hy, y1, y2⟩ := md_thrown W.md 0
  obtain ⟨n, E, pl, sc, tg, wt, pr, ⟨qB, qP, qS, qD, rM, rP, rS, r13, hG, hC, hO, h9⟩, hol, hfc, hd⟩ := h.op y2
  have hn := hG.2.1
  have h1 := hG.1
  have hE := hG.E_lt
  have h31 : ∀ v, v < 6 → pl v < 2 ^ 31 := fun v hv => by have := h9 v hv; omega
  have e173 : F_173 y x z = some (bI (isv n x && isv n z)) := m173 rM.1 (by omega) (by omega) x z
  cases hv : isv n x && isv n z with
  | true =>
    obtain ⟨hx1, hx2⟩ := (Bool.and_eq_true _ _).mp hv
    obtain ⟨u, hu, rfl⟩ := isv_of (by omega) hx1
    obtain ⟨v, hv', rfl⟩ := isv_of (by omega) hx2
    rw [hv] at e173
    have hdy : W.dyn.length < 100000 := by omega
    obtain ⟨a, V, P, e129, vf, fR, fc, ff⟩ := c129 hfc qB qD hG hC hu hdy
    have rg := ff.rg hol fc
    have vB : V.board = W.board := ff.2.1
    obtain ⟨c0, u1, u2, u3, u4, u5, u6, u7, u8, u9, u10⟩ := fR.use hG hC hu
    obtain ⟨M', m1, m2, m3⟩ := m227k rM hG hC hu
    have mm := m2.mo
    have h15 := (ds_15 hG hC hu).1
    refine ans_ok (B := V) (u := nI (dg (ds n E u) n c0 v)) (o := M') ?_ ?_ (mm.2.trans y1) (h.read rg (by decide) (y2.tr mm.1))
    · have e : F_111 W (nI u) (nI v) = some (.inl (nI (dg (ds n E u) n c0 v)), V) := by
        unfold F_111
        rw [c124t qB (by omega) hu]
        show (F_124 W (nI v)).bind _ = _
        rw [c124t qB (by omega) hv']
        rw [Option.bind_some]
        dsimp only
        rw [xq_l, e129, Option.bind_some]
        dsimp only
        rw [vf, Option.bind_some]
        rw [u3, u10 c0 v (by omega) hv']
        rfl
      unfold F_287
      rw [e]
      rfl
    · show F_231 V.md (nI u) (nI v) = _
      rw [rg.2.2.2.2.2.1]
      unfold F_231
      rw [hy, Option.bind_some, e173, Option.bind_some, m135t, Option.bind_some]
      dsimp only
      rw [if_pos rfl, m1, Option.bind_some]
      dsimp only
      rw [z1, pk_sub (by omega), Nat.add_sub_cancel, m231l m3 hG hC hu (by omega) u4 u5 u6, Option.bind_some, m205 m3.1 hn h15 (by omega) hv']
      rfl
  | false =>
    rw [hv] at e173
    refine ans_no (v := 1) (B := W.thr) (u := 0) (o := y.w_thrown 1) (by decide) ?_ ?_ rfl (h.ex y2 1)
    · have e : F_111 W x z = some (.inr 2, W.thr) := by
        unfold F_111
        cases hx1 : isv n x with
        | false =>
          rw [c124f qB (by omega) hx1]
          rfl
        | true =>
          obtain ⟨u, hu, rfl⟩ := isv_of (by omega) hx1
          rw [hx1, Bool.true_and] at hv
          rw [c124t qB (by omega) hu]
          show (F_124 W z).bind _ = _
          rw [c124f qB (by omega) hv]
          rfl
      unfold F_287
      rw [e]
      rfl
    · show F_231 W.md x z = _
      unfold F_231
      rw [hy, Option.bind_some, e173, Option.bind_some, m135f]
      rfl
theorem op24 (h : Sim k W) (hk : k < 90000) (x : Int32) : AnB k (F_283 W x) (fun M => F_211 M x) := by
  obtain ⟨y, hy, y1, y2⟩ := md_thrown W.md 0
  obtain ⟨n, E, pl, sc, tg, wt, pr, ⟨qB, qP, qS, qD, rM, rP, rS, r13, hG, hC, hO, h9⟩, hol, hfc, hd⟩ := h.op y2
  have hn := hG.2.1
  have h1 := hG.1
  have hE := hG.E_lt
  have h31 : ∀ v, v < 6 → pl v < 2 ^ 31 := fun v hv => by have := h9 v hv; omega
  have e172 : F_172 y x = some (bI (isv n x)) := m172 rM.1 (by omega) (by omega) x
  cases hv : isv n x with
  | true =>
    obtain ⟨v, hv', rfl⟩ := isv_of (by omega) hv
    rw [hv] at e172
    have hdy : W.dyn.length < 100000 := by omega
    obtain ⟨a, V, P, e129, vf, fR, fc, ff⟩ := c129 hfc qB qD hG hC hv' hdy
    have rg := ff.rg hol fc
    have vB : V.board = W.board := ff.2.1
    obtain ⟨M', m1, m2, m3⟩ := m209 rM hG hC hv'
    have mm := m2.mo
    have rM' : MR n E M'.now := by rw [mm.1.1]; exact rM
    have rP' : MP pl M'.now := by rw [mm.1.1]; exact rP
    have vP : CP pl V.board := by rw [vB]; exact qP
    refine anb_ok (bI_or _) (B := V) (u := bI (!hold n E v pl)) (o := M') ?_ ?_ (mm.2.trans y1) (h.read rg (by decide) (y2.tr mm.1))
    · have e : F_104 W (nI v) = some (.inl (bI (!hold n E v pl)), V) := by
        unfold F_104
        rw [c124t qB (by omega) hv']
        rw [Option.bind_some]
        dsimp only
        rw [xq_l, e129, Option.bind_some]
        dsimp only
        rw [vf, Option.bind_some]
        rw [c43 vf fR vP h31 hG hC hv', Option.bind_some]
        cases hold n E v pl <;> rfl
      unfold F_283
      rw [e]
      cases hold n E v pl <;> rfl
    · show F_211 V.md (nI v) = _
      rw [rg.2.2.2.2.2.1]
      unfold F_211
      rw [hy, Option.bind_some, e172, Option.bind_some, m135t, Option.bind_some]
      dsimp only
      rw [if_pos rfl, m1, Option.bind_some, m210 rM' rP' m3 h31 hG hC hv', Option.bind_some]
      exact bI_ok
  | false =>
    rw [hv] at e172
    refine anb_no (v := 1) (B := W.thr) (u := 0) (o := y.w_thrown 1) (by decide) ?_ ?_ rfl (h.ex y2 1)
    · unfold F_283 F_104
      rw [c124f qB (by omega) hv]
      rfl
    · show F_211 W.md x = _
      unfold F_211
      rw [hy, Option.bind_some, e172, Option.bind_some, m135f]
      rfl
end FPR
