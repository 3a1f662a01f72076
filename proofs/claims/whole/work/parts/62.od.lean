/-! ===== THE CLASS'S OUTLOOK IS MADE ===== -/
variable {n E : Nat} {p : Nat → Nat}
/-- the fewest moves to a pile with a pebble on `v` -/
def fw (n T : Nat) (L : List Nat) (v : Nat) : Option Nat := (L.find? (fun c => decide (¬ qd c v = 0))).map (fun c => T - sm (qd c) n)
def fx (a : Option Nat) : Int32 := match a with
  | none => -1
  | some k => nI k
def ff (n : Nat) (L : List Nat) : Nat := L.foldl (fun a c => min a (em n c)) n
theorem ff_app (n : Nat) (L : List Nat) (c : Nat) : ff n (L ++ [c]) = min (ff n L) (em n c) := by unfold ff; rw [List.foldl_append]; rfl
theorem ff_le (n : Nat) (L : List Nat) : ff n L ≤ n := by
  have : ∀ (L : List Nat) a, a ≤ n → L.foldl (fun a c => min a (em n c)) a ≤ n := fun L => by
    induction L with
    | nil => intro a ha; exact ha
    | cons c L ih => intro a ha; exact ih _ (Nat.le_trans (Nat.min_le_left _ _) ha)
  exact this L n (Nat.le_refl _)
theorem fw_app (n T : Nat) (L : List Nat) (c v : Nat) (hT : T < 2 ^ 31) (x : Int32) (hx : x = nI (T - sm (qd c) n)) : fx (fw n T (L ++ [c]) v) = if ¬ qd c v = 0 ∧ fx (fw n T L v) = -1 then x else fx (fw n T L v) := by
  unfold fw
  rw [List.find?_append]
  cases h : L.find? (fun c => decide (¬ qd c v = 0)) with
  | some k =>
    rw [if_neg (fun q => nI_m1 (Nat.lt_of_le_of_lt (Nat.sub_le _ _) hT) q.2)]
    rfl
  | none =>
    rw [Option.none_or]
    by_cases q : qd c v = 0
    · rw [if_neg (fun k => k.1 q), List.find?_singleton, if_neg (by simpa using q)]
    · rw [if_pos ⟨q, rfl⟩, List.find?_singleton, if_pos (by simpa using q), hx]
      rfl
/-- what the outlook says of a graph and a pile -/
def OK (n E c : Nat) (o : Ol) : Prop := o.vertices = nI n ∧ o.edges = lN E ∧ o.firstPile = nI c ∧ o.pileCount = nI (qa n E c).length ∧ o.fewestEmpty = nI (ff n (qa n E c)) ∧ ∀ v, v < n → o.fewestMoves v = fx (fw n (sm (qd c) n) (qa n E c) v)
theorem sm6 {c : Nat} (hc : c < 16 ^ n) (hn : n ≤ 6) : sm (qd c) 6 = sm (qd c) n := by
  have key : ∀ k, sm (qd c) (n + k) = sm (qd c) n := fun k => by
    induction k with
    | zero => rfl
    | succ k ih => rw [← Nat.add_assoc, sm, ih, qd_top hc (by omega), Nat.add_zero]
  have := key (6 - n)
  rw [show n + (6 - n) = 6 by omega] at this
  exact this
theorem VC_self {c : Nat} (hc : c < 16 ^ n) : VC n (qd c) c := by
  refine ⟨hc, Nat.le_refl _, ?_⟩
  have : ∀ k, sm (fun v => qd c v - qd c v) k = 0 := fun k => by
    induction k with
    | zero => rfl
    | succ k ih => rw [sm, ih, Nat.sub_self]
  rw [this]
  exact Nat.zero_le _
theorem wk_end (hG : Gr n E) {c : Nat} (hc : c < 16 ^ n) (ht : sm (qd c) n ≤ 14) : ∃ N, N < 8193 ∧ (wk n E c N).length ≤ N ∧ (∀ e, e < N → e < (wk n E c e).length) ∧ qa n E c = wk n E c N := by
  have h0 := LI_wk hG ht (VC_self hc)
  obtain ⟨N, a, b, d⟩ := least (P := fun i => (wk n E c i).length ≤ i) (m := 8193) ⟨8192, by decide, Nat.le_trans (LI_few hG.2.1 ht (h0 8192)) (by decide)⟩
  refine ⟨N, a, b, fun e he => Nat.lt_of_not_le (d e he), ?_⟩
  have := wk_stop b (8192 - N)
  rw [show N + (8192 - N) = 8192 by omega] at this
  exact this
theorem wk_take {c i : Nat} (h : i < (wk n E c i).length) : (wk n E c (i + 1)).take (i + 1) = (wk n E c i).take i ++ [(wk n E c i)[i]] := by
  obtain ⟨t, ht⟩ := wk_pre1 n E c i
  rw [ht, List.take_append_of_le_length (by omega), List.take_succ_eq_append_getElem h]
theorem c58 (o : Ol) : ∃ o', F_58 o = some o' ∧ OT o' [] ∧ o'.isMade = o.isMade ∧ o'.vertices = o.vertices ∧ o'.edges = o.edges ∧ o'.firstPile = o.firstPile ∧ o'.pileCount = o.pileCount ∧ o'.fewestEmpty = o.vertices ∧ ∀ v, v < 6 → o'.fewestMoves v = -1 := by
  obtain ⟨f, e1, k1⟩ := f261 16384 o.slots 0 (by decide)
  obtain ⟨y1, hy1, a1, a2, a3⟩ := o_slots o f
  obtain ⟨g, e2, k2⟩ := f261 6 y1.fewestMoves (-1) (by decide)
  obtain ⟨y2, hy2, b1, b2, b3, b4, b5, b6, b7, b8, b9⟩ := o_fm y1 g
  obtain ⟨y3, hy3, d1, d2, d3, d4, d5, d6, d7, d8, d9⟩ := o_fe y2 y2.vertices
  refine ⟨y3, ?_, ⟨⟨fun _ => 0, fun j hj => ?_, HT.nil fun _ _ => rfl⟩, fun j hj => absurd hj (Nat.not_lt_zero _)⟩, d3.trans (b3.trans a3.1), d4.trans (b4.trans a3.2.1), d5.trans (b5.trans a3.2.2.1), d6.trans (b6.trans a3.2.2.2.1), d7.trans (b7.trans a3.2.2.2.2.1), d8.trans (b4.trans a3.2.1), fun v hv => ?_⟩
  · unfold F_58
    rw [e1, Option.bind_some, hy1, Option.bind_some, e2, Option.bind_some, hy2, Option.bind_some, hy3]
    rfl
  · rw [d1, b1, a1, k1, if_pos hj, nI_0]
  · rw [d9, b9, k2, if_pos hv]
theorem c57 {W : Wd} (hB : CB n E W.board) (hG : Gr n E) {c : Nat} (hc : c < 16 ^ n) (ht : sm (qd c) n ≤ 14) (hv : W.ol.vertices = nI n) (he : W.ol.edges = lN E) (hf : W.ol.firstPile = nI c) :
    ∃ o', F_57 W = some (W.w_ol o') ∧ OK n E c o' ∧ o'.isMade = W.ol.isMade := by
  have hn := hG.2.1
  have hV := VC_self hc
  have c24 := p24 hc hn
  have LW := LI_wk hG ht hV
  obtain ⟨N, n1, n2, n3, n4⟩ := wk_end hG hc ht
  obtain ⟨o1, e1, t1, a1, a2, a3, a4, a5, a6, a7⟩ := c58 W.ol
  obtain ⟨o2, e2, t2, s2⟩ := c61 (x := c) t1 (by decide) (fun x hx => absurd hx List.not_mem_nil) c24
  have hins : ins [] c = [c] := rfl
  rw [hins] at e2 t2
  have main : ∃ r, lw (G_57_25 (nI (sm (qd c) n))) 200000 (nI 1, 0, W.w_ol o2) = some r ∧ ∃ o, r = (nI (wk n E c N).length, W.w_ol o) ∧ o.isMade = W.ol.isMade ∧ o.vertices = nI n ∧ o.edges = lN E ∧ o.firstPile = nI c ∧ o.fewestEmpty = nI (ff n (wk n E c N)) ∧ ∀ v, v < n → o.fewestMoves v = fx (fw n (sm (qd c) n) (wk n E c N) v) := by
    refine lw_for (n := N) (fun i st => ∃ o, st = (nI (wk n E c i).length, nI i, W.w_ol o) ∧ OT o (wk n E c i) ∧ o.isMade = W.ol.isMade ∧ o.vertices = nI n ∧ o.edges = lN E ∧ o.firstPile = nI c ∧ o.fewestEmpty = nI (ff n ((wk n E c i).take i)) ∧ ∀ v, v < n → o.fewestMoves v = fx (fw n (sm (qd c) n) ((wk n E c i).take i) v)) ?_ ?_ ⟨o2, rfl, t2, s2.1.trans a1, s2.2.1.trans (a2.trans hv), s2.2.2.1.trans (a3.trans he), s2.2.2.2.1.trans (a4.trans hf), s2.2.2.2.2.2.1.trans (a6.trans hv), fun v hv => by rw [s2.2.2.2.2.2.2, a7 v (by omega)]; rfl⟩ (by omega)
    · rintro i st hi ⟨o, rfl, b1, b2, b3, b4, b5, b6, b7⟩
      left
      have hil := n3 i hi
      have hmem := List.getElem_mem hil
      have hVC := (LW i).2 _ hmem
      have htk := wk_take hil
      have hlen := LI_few hn ht (LW i)
      have hnx := wk_next hil
      have hrow := b1.2 i hil
      generalize hq : (wk n E c i)[i] = q at *
      have q24 := p24 hVC.1 hn
      have f1 := ff_le n ((wk n E c i).take i)
      obtain ⟨o3, e3, g1, g2, g3, g4, g5, g6, g7, g8, g9⟩ := c59 (o := o) (c := q) (x := nI (sm (qd c) n) - nI (sm (qd q) n)) hn b3 b6 (by omega) q24
      have T3 : OT o3 (wk n E c i) := by
        obtain ⟨⟨S, hS, hH⟩, hR⟩ := b1
        exact ⟨⟨S, fun j hj => by rw [g1]; exact hS j hj, hH⟩, fun j hj => by rw [g2]; exact hR j hj⟩
      obtain ⟨o4, e4, t4, s4⟩ := c60 (W := W.w_ol o3) (p := qd c) hB hG ht (g4.trans b3) (LW i) T3 hVC
      rw [← hnx] at e4 t4
      refine ⟨(nI (wk n E c (i + 1)).length, nI (i + 1), W.w_ol o4), ?_, o4, rfl, t4, s4.1.trans (g3.trans b2), s4.2.1.trans (g4.trans b3), s4.2.2.1.trans (g5.trans b4), s4.2.2.2.1.trans (g6.trans b5), ?_, fun v hv => ?_⟩
      · simp only [G_57_25]
        rw [if_neg (nI_ge hil (by omega)), show (8192 : Int32) = nI 8192 from rfl, if_neg (nI_ge (by omega) (by decide)), ixn (by omega) (by decide), Option.bind_some, show (W.w_ol o).ol = o from rfl, hrow, c56 q24, Option.bind_some, sm6 hVC.1 hn, e3, Option.bind_some]
        show (F_60 (W.w_ol o3) (o3.row i) (nI (wk n E c i).length)).bind _ = _
        rw [g2, hrow, e4, Option.bind_some, z1, nI_add]
        rfl
      · rw [s4.2.2.2.2.2.1, htk, ff_app]
        exact g8
      · rw [s4.2.2.2.2.2.2, htk, fw_app n _ _ q v (by omega) _ (pk_sub hVC.2.1), ← b7 v hv]
        exact g9 v hv
    · rintro st ⟨o, rfl, b1, b2, b3, b4, b5, b6, b7⟩
      rw [List.take_of_length_le n2] at b6 b7
      have hlen := LI_few hn ht (LW N)
      refine ⟨(nI (wk n E c N).length, W.w_ol o), ?_, o, rfl, b2, b3, b4, b5, b6, b7⟩
      simp only [G_57_25]
      rw [if_pos (nI_le n2 (by omega))]
  obtain ⟨r, hr, o, rfl, b2, b3, b4, b5, b6, b7⟩ := main
  obtain ⟨y, hy, d1, d2, d3, d4, d5, d6, d7, d8, d9⟩ := o_pc o (nI (wk n E c N).length)
  refine ⟨y, ?_, ⟨d4.trans b3, d5.trans b4, d6.trans b5, by rw [d7, n4], by rw [d8, b6, n4], fun v hv => by rw [d9, b7 v hv, n4]⟩, d3.trans b2⟩
  unfold F_57
  rw [e1, Option.bind_some, Option.bind_some]
  rw [show (W.w_ol o1).ol = o1 from rfl, a4, hf, c56 c24, Option.bind_some, sm6 hc hn]
  have e2' : F_61 o1 (nI c) 0 = some (nI 1, o2) := e2
  rw [e2', Option.bind_some]
  show (lw (G_57_25 (nI (sm (qd c) n))) 200000 (nI 1, 0, W.w_ol o2)).bind _ = _
  rw [hr, Option.bind_some]
  unfold J_57_0_j82
  show (some (o.w_pileCount (nI (wk n E c N).length))).bind _ = _
  rw [hy]
  rfl
theorem c54 {W : Wd} (hB : CB n E W.board) (hP : CP p W.board) (hn : n ≤ 6) (h16 : ∀ v, v < n → p v < 16) : F_54 W = some (nI (qc p n)) := by
  unfold F_54
  have key : lw (G_54_4 W) 200000 (0, 0) = some (nI (qc p n)) := by
    refine lw_seq (fun i => (nI (qc p i), nI i)) (n := n) (fun i hi => ?_) ?_ (by omega)
    · simp only [G_54_4]
      have hl := qc_lt (p := p) (n := i) (fun v hv => h16 v (by omega))
      have h2 : 2 ^ (4 * i) = 16 ^ i := Nat.pow_mul 2 4 i
      rw [hB.1, if_neg (nI_ge hi (by omega)), ixn (by omega) (by decide), Option.bind_some, hP i (by omega), z4, pk_mul, shl_n _ (by omega), fa_or, z1, nI_add, Nat.or_comm, ← Nat.shiftLeft_add_eq_or_of_lt (by rw [h2]; exact hl), Nat.shiftLeft_eq, h2, Nat.add_comm]
      rfl
    · simp only [G_54_4]
      rw [hB.1, if_pos (nI_le (Nat.le_refl _) (by omega))]
  rw [key, Option.bind_some]
/-- what is kept of an outlook -/
def OI (o : Ol) : Prop := o.isMade = 0 ∨ ∃ n E c, Gr n E ∧ c < 16 ^ n ∧ OK n E c o
theorem o_im (o : Ol) (f : Int32) : ∃ y, o.w_isMade f = y ∧ y.isMade = f := ⟨_, rfl, rfl⟩
theorem o_vt (o : Ol) (f : Int32) : ∃ y, o.w_vertices f = y ∧ y.isMade = o.isMade ∧ y.vertices = f := ⟨_, rfl, rfl, rfl⟩
theorem o_ed (o : Ol) (f : Int64) : ∃ y, o.w_edges f = y ∧ y.isMade = o.isMade ∧ y.vertices = o.vertices ∧ y.edges = f := ⟨_, rfl, rfl, rfl, rfl⟩
theorem o_fp (o : Ol) (f : Int32) : ∃ y, o.w_firstPile f = y ∧ y.isMade = o.isMade ∧ y.vertices = o.vertices ∧ y.edges = o.edges ∧ y.firstPile = f := ⟨_, rfl, rfl, rfl, rfl, rfl⟩
theorem sm16 (h : sm p n ≤ 14) {v : Nat} (hv : v < n) : p v < 16 := by
  have := sm_mem (f := p) hv
  omega
theorem c53 {W : Wd} (hB : CB n E W.board) (hP : CP p W.board) (hG : Gr n E) (ht : sm p n ≤ 14) (hO : OI W.ol) :
    ∃ o', F_53 W = some (W.w_ol o') ∧ OI o' ∧ OK n E (qc p n) o' := by
  have hn := hG.2.1
  have h16 : ∀ v, v < n → p v < 16 := fun v hv => sm16 ht hv
  have hl := qc_lt h16
  have hs : sm (qd (qc p n)) n ≤ 14 := by rw [sm_cong (qc_qd h16)]; exact ht
  have fresh : ∃ o', J_53_0_j44 W (nI (qc p n)) = some (W.w_ol o') ∧ OI o' ∧ OK n E (qc p n) o' := by
    obtain ⟨y1, hy1, a1⟩ := o_im W.ol 1
    obtain ⟨y2, hy2, b1, b2⟩ := o_vt y1 W.board.vertices
    obtain ⟨y3, hy3, d1, d2, d3⟩ := o_ed y2 W.board.edges
    obtain ⟨y4, hy4, f1, f2, f3, f4⟩ := o_fp y3 (nI (qc p n))
    obtain ⟨o', e1, e2, _⟩ := c57 (W := W.w_ol y4) hB hG hl hs (f2.trans (d2.trans (b2.trans hB.1))) (f3.trans (d3.trans hB.2)) f4
    refine ⟨o', ?_, .inr ⟨n, E, _, hG, hl, e2⟩, e2⟩
    unfold J_53_0_j44
    rw [hy1, Option.bind_some, Option.bind_some]
    show (some (y1.w_vertices W.board.vertices)).bind _ = _
    rw [hy2, Option.bind_some, Option.bind_some]
    show (some (y2.w_edges W.board.edges)).bind _ = _
    rw [hy3, Option.bind_some, Option.bind_some]
    show (some (y3.w_firstPile (nI (qc p n)))).bind _ = _
    rw [hy4, Option.bind_some, Option.bind_some]
    show (F_57 (W.w_ol y4)).bind _ = _
    rw [e1]
    rfl
  unfold F_53
  rw [c54 hB hP hn h16, Option.bind_some]
  by_cases q1 : W.ol.isMade = 0
  · rw [if_pos q1]; exact fresh
  · rw [if_neg q1]
    by_cases q2 : W.ol.vertices = W.board.vertices
    · rw [if_neg (fun k => k q2)]
      by_cases q3 : lg_cmp W.ol.edges W.board.edges = 0
      · rw [if_neg (fun k => k q3)]
        by_cases q4 : W.ol.firstPile = nI (qc p n)
        · rw [if_neg (fun k => k q4)]
          refine ⟨W.ol, rfl, hO, ?_⟩
          rcases hO with k | ⟨n', E', c', g1, g2, g3⟩
          · exact absurd k q1
          · have hn' := g1.2.1
            have c24 := p24 g2 hn'
            have k24 := p24 hl hn
            have e1 : n' = n := by
              have := g3.1.symm.trans (q2.trans hB.1)
              rwa [nI_eq (by omega) (by omega)] at this
            have e2 : E' = E := by
              have := g3.2.1.symm.trans ((l_eq.1 q3).trans hB.2)
              have h1 := g1.E_lt
              have h2 := hG.E_lt
              rwa [fb_lN_inj (by omega) (by omega)] at this
            have e3 : c' = qc p n := by
              have := g3.2.2.1.symm.trans q4
              rwa [nI_eq (by omega) (by omega)] at this
            subst e1 e2 e3
            exact g3
        · rw [if_pos q4]; exact fresh
      · rw [if_pos q3]; exact fresh
    · rw [if_pos q2]; exact fresh
