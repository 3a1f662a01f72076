/-! ===== READING CALLS ===== -/
section RD
variable {k : Nat} {W : Wd}
theorem Sim.op {y : Md} (h : Sim k W) (m : MO W.md y) : ∃ n E pl sc tg wt pr, SQ n E pl sc tg wt pr W.board y.now ∧ OI W.ol ∧ FC W ∧ W.dyn.length ≤ k := by
  obtain ⟨s2, s3, s4, s6, s7, s8, s9, s10⟩ := h
  obtain ⟨n, E, pl, sc, tg, wt, pr, q⟩ := s3
  exact ⟨n, E, pl, sc, tg, wt, pr, by rw [m.1]; exact q, s8, s9, s10.1⟩
theorem Sim.exg {y : Md} {c : Nat} {V : Wd} (h : Sim k W) (f : RG c W V) (hc : c ≤ 6) (m : MO W.md y) (x : Int32) : Sim (k + 7) (V.thr.w_md (y.w_thrown x)) := by
  obtain ⟨z, hz, z1, z2⟩ := md_thrown y x
  rw [hz]
  obtain ⟨a1, a2, a3, a4, a5, a6, a7, a8, a9, a10, a11, a12⟩ := id f
  exact h.read (f.tr (RG.thr a11 a12)) (by omega) (m.tr z2)
theorem Sim.ex {y : Md} (h : Sim k W) (m : MO W.md y) (x : Int32) : Sim (k + 7) (W.thr.w_md (y.w_thrown x)) := by
  obtain ⟨n, E, pl, sc, tg, wt, pr, -, h1, h2, -⟩ := h.op m
  exact h.exg (RG.rf h1 h2) (by decide) m x
theorem c124t {n E v : Nat} (hB : CB n E W.board) (hn : n < 2 ^ 31) (hv : v < n) : F_124 W (nI v) = some (.inl (), W) := by
  rcases c124 hB hn (nI v) with ⟨h, e⟩ | ⟨h, e⟩
  · exact e
  · rw [isv_t hv hn] at h
    cases h
theorem c124f {n E : Nat} (hB : CB n E W.board) (hn : n < 2 ^ 31) {x : Int32} (hv : isv n x = false) : F_124 W x = some (.inr 2, W.thr) := by
  rcases c124 hB hn x with ⟨h, e⟩ | ⟨h, e⟩
  · rw [hv] at h
    cases h
  · exact e
theorem op22 (h : Sim k W) (hk : k < 90000) (x : Int32) : Ans k (F_281 W x) (fun M => F_203 M x) := by
  obtain ⟨y, hy, y1, y2⟩ := md_thrown W.md 0
  obtain ⟨n, E, pl, sc, tg, wt, pr, ⟨qB, qP, qS, qD, rM, rP, rS, r13, hG, hC, hO, h9⟩, hol, hfc, hd⟩ := h.op y2
  have hn := hG.2.1
  have h1 := hG.1
  have hE := hG.E_lt
  have h31 : ∀ v, v < 6 → pl v < 2 ^ 31 := fun v hv => by have := h9 v hv; omega
  have e172 : F_172 y x = some (bI (isv n x)) := m172 rM.1 (by omega) (by omega) x
  cases hv : isv n x with
  | true =>
    obtain ⟨v, hv', rfl⟩ := isv_of (by omega) hv
    rw [hv] at e172
    refine ans_ok (B := W) (u := nI (pl v)) (o := y) ?_ ?_ y1 (h.read (RG.rf hol hfc) (by decide) y2)
    · have e : F_102 W (nI v) = some (.inl (nI (pl v)), W) := by
        unfold F_102
        rw [c124t qB (by omega) hv']
        show (ix (nI v) 6).bind _ = _
        rw [ixn (by omega) (by decide), Option.bind_some, qP v (by omega)]
      unfold F_281
      rw [e]
      rfl
    · show F_203 W.md (nI v) = _
      unfold F_203
      rw [hy, Option.bind_some, e172, Option.bind_some, m135t, Option.bind_some]
      dsimp only
      rw [if_pos rfl]
      show (F_176 y (nI v)).bind _ = _
      rw [m176 rP (by omega)]
      rfl
  | false =>
    rw [hv] at e172
    refine ans_no (v := 1) (B := W.thr) (u := 0) (o := y.w_thrown 1) (by decide) ?_ ?_ rfl (h.ex y2 1)
    · unfold F_281 F_102
      rw [c124f qB (by omega) hv]
      rfl
    · show F_203 W.md x = _
      unfold F_203
      rw [hy, Option.bind_some, e172, Option.bind_some, m135f]
      rfl
theorem op19 (h : Sim k W) (hk : k < 90000) (x z : Int32) : AnB k (F_278 W x z) (fun M => F_200 M x z) := by
  obtain ⟨y, hy, y1, y2⟩ := md_thrown W.md 0
  obtain ⟨n, E, pl, sc, tg, wt, pr, ⟨qB, qP, qS, qD, rM, rP, rS, r13, hG, hC, hO, h9⟩, hol, hfc, hd⟩ := h.op y2
  have hn := hG.2.1
  have h1 := hG.1
  have hE := hG.E_lt
  have h31 : ∀ v, v < 6 → pl v < 2 ^ 31 := fun v hv => by have := h9 v hv; omega
  have e173 : F_173 y x z = some (bI (isv n x && isv n z)) := m173 rM.1 (by omega) (by omega) x z
  cases hv : isv n x && isv n z with
  | true =>
    obtain ⟨hx1, hx2⟩ := (Bool.and_eq_true _ _).mp hv
    obtain ⟨u, hu, rfl⟩ := isv_of (by omega) hx1
    obtain ⟨v, hv', rfl⟩ := isv_of (by omega) hx2
    rw [hv] at e173
    refine anb_ok (bI_or _) (B := W) (u := bI (ad E u v)) (o := y) ?_ ?_ y1 (h.read (RG.rf hol hfc) (by decide) y2)
    · have e : F_99 W (nI u) (nI v) = some (.inl (bI (ad E u v)), W) := by
        unfold F_99
        rw [c124t qB (by omega) hu]
        show (F_124 W (nI v)).bind _ = _
        rw [c124t qB (by omega) hv']
        show (F_6 W.board (nI u) (nI v)).bind _ = _
        rw [c6 qB hE (by omega) (by omega), Option.bind_some]
        exact bI_ok
      unfold F_278
      rw [e]
      cases ad E u v <;> rfl
    · show F_200 W.md (nI u) (nI v) = _
      unfold F_200
      rw [hy, Option.bind_some, e173, Option.bind_some, m135t, Option.bind_some]
      dsimp only
      rw [if_neg (show ¬ ¬ (0 : Int32) = 0 from fun z => z rfl)]
      show (F_175 y (nI u) (nI v)).bind _ = _
      rw [m175 rM (by omega) (by omega), Option.bind_some]
      cases ad E u v <;> rfl
  | false =>
    rw [hv] at e173
    refine anb_no (v := 1) (B := W.thr) (u := 0) (o := y.w_thrown 1) (by decide) ?_ ?_ rfl (h.ex y2 1)
    · have e : F_99 W x z = some (.inr 2, W.thr) := by
        unfold F_99
        cases hx1 : isv n x with
        | false =>
          rw [c124f qB (by omega) hx1]
          rfl
        | true =>
          obtain ⟨u, hu, rfl⟩ := isv_of (by omega) hx1
          rw [hx1, Bool.true_and] at hv
          rw [c124t qB (by omega) hu]
          show (F_124 W z).bind _ = _
          rw [c124f qB (by omega) hv]
          rfl
      unfold F_278
      rw [e]
      rfl
    · show F_200 W.md x z = _
      unfold F_200
      rw [hy, Option.bind_some, e173, Option.bind_some, m135f]
      rfl
theorem op20 (h : Sim k W) (hk : k < 90000) (x z : Int32) : Ans k (F_279 W x z) (fun M => F_201 M x z) := by
  obtain ⟨y, hy, y1, y2⟩ := md_thrown W.md 0
  obtain ⟨n, E, pl, sc, tg, wt, pr, ⟨qB, qP, qS, qD, rM, rP, rS, r13, hG, hC, hO, h9⟩, hol, hfc, hd⟩ := h.op y2
  have hn := hG.2.1
  have h1 := hG.1
  have hE := hG.E_lt
  have h31 : ∀ v, v < 6 → pl v < 2 ^ 31 := fun v hv => by have := h9 v hv; omega
  have e173 : F_173 y x z = some (bI (isv n x && isv n z)) := m173 rM.1 (by omega) (by omega) x z
  cases hv : isv n x && isv n z with
  | true =>
    obtain ⟨hx1, hx2⟩ := (Bool.and_eq_true _ _).mp hv
    obtain ⟨u, hu, rfl⟩ := isv_of (by omega) hx1
    obtain ⟨v, hv', rfl⟩ := isv_of (by omega) hx2
    rw [hv] at e173
    obtain ⟨f, f1, f2, f3⟩ := m181 rM hG hC hu
    have hDi : MDi n E (y.w_distances f) u := fun w hw => f2 w hw
    have mo : MO y (y.w_distances f) := ⟨rfl, rfl, rfl, rfl, rfl, rfl, rfl, rfl⟩
    refine ans_ok (B := W) (u := nI (ds n E u v)) (o := y.w_distances f) ?_ ?_ y1 (h.read (RG.rf hol hfc) (by decide) (y2.tr mo))
    · have e : F_100 W (nI u) (nI v) = some (.inl (nI (ds n E u v)), W) := by
        unfold F_100
        rw [c124t qB (by omega) hu]
        show (F_124 W (nI v)).bind _ = _
        rw [c124t qB (by omega) hv']
        show (F_15 W.board (nI u) (nI v)).bind _ = _
        rw [c15 qD hn hu hv']
        rfl
      unfold F_279
      rw [e]
      rfl
    · show F_201 W.md (nI u) (nI v) = _
      unfold F_201
      rw [hy, Option.bind_some, e173, Option.bind_some, m135t, Option.bind_some]
      dsimp only
      rw [if_pos rfl]
      show (F_181 y (nI u)).bind _ = _
      rw [f1, Option.bind_some, m183 hDi hn (by omega) hv']
      rfl
  | false =>
    rw [hv] at e173
    refine ans_no (v := 1) (B := W.thr) (u := 0) (o := y.w_thrown 1) (by decide) ?_ ?_ rfl (h.ex y2 1)
    · have e : F_100 W x z = some (.inr 2, W.thr) := by
        unfold F_100
        cases hx1 : isv n x with
        | false =>
          rw [c124f qB (by omega) hx1]
          rfl
        | true =>
          obtain ⟨u, hu, rfl⟩ := isv_of (by omega) hx1
          rw [hx1, Bool.true_and] at hv
          rw [c124t qB (by omega) hu]
          show (F_124 W z).bind _ = _
          rw [c124f qB (by omega) hv]
          rfl
      unfold F_279
      rw [e]
      rfl
    · show F_201 W.md x z = _
      unfold F_201
      rw [hy, Option.bind_some, e173, Option.bind_some, m135f]
      rfl
theorem op40 (h : Sim k W) (hk : k < 90000) (x : Int32) : Ans k (F_296 W x) (fun M => F_249 M x) := by
  obtain ⟨y, hy, y1, y2⟩ := md_thrown W.md 0
  obtain ⟨n, E, pl, sc, tg, wt, pr, ⟨qB, qP, qS, qD, rM, rP, rS, r13, hG, hC, hO, h9⟩, hol, hfc, hd⟩ := h.op y2
  have hn := hG.2.1
  have h1 := hG.1
  have hE := hG.E_lt
  have h31 : ∀ v, v < 6 → pl v < 2 ^ 31 := fun v hv => by have := h9 v hv; omega
  have e172 : F_172 y x = some (bI (isv n x)) := m172 rM.1 (by omega) (by omega) x
  cases hv : isv n x with
  | true =>
    obtain ⟨v, hv', rfl⟩ := isv_of (by omega) hv
    rw [hv] at e172
    obtain ⟨f, f1⟩ := m248 rM hG hC hv'
    refine ans_ok (B := W) (u := nI (stk n E v)) (o := y.w_distances f) ?_ ?_ y1 (h.read (RG.rf hol hfc) (by decide) (y2.tr ⟨rfl, rfl, rfl, rfl, rfl, rfl, rfl, rfl⟩))
    · have e : F_120 W (nI v) = some (.inl (nI (stk n E v)), W) := by
        unfold F_120
        rw [c124t qB (by omega) hv']
        show (F_21 W.board (nI v)).bind _ = _
        rw [c21 qB qD hG hv']
        rfl
      unfold F_296
      rw [e]
      rfl
    · show F_249 W.md (nI v) = _
      unfold F_249
      rw [hy, Option.bind_some, e172, Option.bind_some, m135t, Option.bind_some]
      dsimp only
      rw [if_pos rfl]
      show (F_248 y (nI v)).bind _ = _
      rw [f1]
      rfl
  | false =>
    rw [hv] at e172
    refine ans_no (v := 1) (B := W.thr) (u := 0) (o := y.w_thrown 1) (by decide) ?_ ?_ rfl (h.ex y2 1)
    · unfold F_296 F_120
      rw [c124f qB (by omega) hv]
      rfl
    · show F_249 W.md x = _
      unfold F_249
      rw [hy, Option.bind_some, e172, Option.bind_some, m135f]
      rfl
def pcm (f : Nat → Bool) : Nat → Nat
  | 0 => 0
  | i + 1 => pcm f i + if f i then 1 else 0
theorem c103l {n E v : Nat} {pl : Nat → Nat} (qB : CB n E W.board) (qP : CP pl W.board) (hE : E < 2 ^ 36) (h31 : ∀ v, v < 6 → pl v < 2 ^ 31) (hn : n ≤ 6) (hv : v < n) : lw (G_103_9 W (nI v)) 200000 (0, 0) = some (nI (pcm (mv E pl v) n)) := by
  refine lw_seq (fun i => (nI (pcm (mv E pl v) i), nI i)) (n := n) (fun i hi => ?_) ?_ (by omega)
  · simp only [G_103_9, J_103_9_j35]
    rw [qB.1, if_neg (nI_ge hi (by omega)), c23 qB qP hE h31 (by omega) (by omega), Option.bind_some, z1, nI_add, nI_add]
    show _ = some (Sum.inl (nI (pcm (mv E pl v) i + if mv E pl v i then 1 else 0), nI (i + 1)))
    cases mv E pl v i
    · rw [if_pos (by decide), if_neg (by decide)]; rfl
    · rw [if_neg (by decide), if_pos rfl]
  · simp only [G_103_9]
    rw [qB.1, if_pos (nI_le (Nat.le_refl _) (by omega))]
theorem m204l {M : Md} {n E v : Nat} {pl : Nat → Nat} (rM : MR n E M.now) (rP : MP pl M.now) (h31 : ∀ v, v < 6 → pl v < 2 ^ 31) (hn : n ≤ 6) (hv : v < n) : lw (G_204_24 M (nI v)) 200000 (0, 0) = some (nI (pcm (mv E pl v) n)) := by
  refine lw_seq (fun i => (nI (pcm (mv E pl v) i), nI i)) (n := n) (fun i hi => ?_) ?_ (by omega)
  · simp only [G_204_24, J_204_24_j49]
    rw [show ix 0 93 = some 0 from rfl, Option.bind_some, rM.1, if_neg (nI_ge hi (by omega)), m192 rM rP h31 (by omega) (by omega), Option.bind_some, z1, nI_add, nI_add]
    show _ = some (Sum.inl (nI (pcm (mv E pl v) i + if mv E pl v i then 1 else 0), nI (i + 1)))
    cases mv E pl v i
    · rw [if_pos (by decide), if_neg (by decide), z0, nI_add]
    · rw [if_neg (by decide), if_pos rfl]
  · simp only [G_204_24]
    rw [show ix 0 93 = some 0 from rfl, Option.bind_some, rM.1, if_pos (nI_le (Nat.le_refl _) (by omega))]
theorem op23 (h : Sim k W) (hk : k < 90000) (x : Int32) : Ans k (F_282 W x) (fun M => F_204 M x) := by
  obtain ⟨y, hy, y1, y2⟩ := md_thrown W.md 0
  obtain ⟨n, E, pl, sc, tg, wt, pr, ⟨qB, qP, qS, qD, rM, rP, rS, r13, hG, hC, hO, h9⟩, hol, hfc, hd⟩ := h.op y2
  have hn := hG.2.1
  have h1 := hG.1
  have hE := hG.E_lt
  have h31 : ∀ v, v < 6 → pl v < 2 ^ 31 := fun v hv => by have := h9 v hv; omega
  have e172 : F_172 y x = some (bI (isv n x)) := m172 rM.1 (by omega) (by omega) x
  cases hv : isv n x with
  | true =>
    obtain ⟨v, hv', rfl⟩ := isv_of (by omega) hv
    rw [hv] at e172
    refine ans_ok (B := W) (u := nI (pcm (mv E pl v) n)) (o := y) ?_ ?_ y1 (h.read (RG.rf hol hfc) (by decide) y2)
    · have e : F_103 W (nI v) = some (.inl (nI (pcm (mv E pl v) n)), W) := by
        unfold F_103
        rw [c124t qB (by omega) hv']
        show (lw (G_103_9 W (nI v)) 200000 (0, 0)).bind _ = _
        rw [c103l qB qP hE h31 hn hv']
        rfl
      unfold F_282
      rw [e]
      rfl
    · show F_204 W.md (nI v) = _
      unfold F_204
      rw [hy, Option.bind_some, e172, Option.bind_some, m135t, Option.bind_some]
      dsimp only
      rw [if_pos rfl]
      show (lw (G_204_24 y (nI v)) 200000 (0, 0)).bind _ = _
      rw [m204l rM rP h31 hn hv']
      rfl
  | false =>
    rw [hv] at e172
    refine ans_no (v := 1) (B := W.thr) (u := 0) (o := y.w_thrown 1) (by decide) ?_ ?_ rfl (h.ex y2 1)
    · unfold F_282 F_103
      rw [c124f qB (by omega) hv]
      rfl
    · show F_204 W.md x = _
      unfold F_204
      rw [hy, Option.bind_some, e172, Option.bind_some, m135f]
      rfl
end RD
