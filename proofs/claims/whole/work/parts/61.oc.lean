/-! ===== THE CLASS'S OUTLOOK ===== -/
variable {n E : Nat} {p : Nat → Nat}
theorem p24 {c : Nat} (hc : c < 16 ^ n) (hn : n ≤ 6) : c < 2 ^ 24 := Nat.lt_of_lt_of_le hc (Nat.le_trans (Nat.pow_le_pow_right (by decide) hn) (by decide))
theorem c55 {c v : Nat} (hc : c < 2 ^ 24) (hv : v < 6) : F_55 (nI c) (nI v) = some (nI (qd c v)) := by
  unfold F_55
  rw [z4, pk_mul, shr_n (by omega) (by omega), pk_andN (k := 4) (by rw [Nat.shiftRight_eq_div_pow]; exact Nat.lt_of_le_of_lt (Nat.div_le_self _ _) (by omega)) (by decide), Nat.shiftRight_eq_div_pow, show 2 ^ (4 * v) = 16 ^ v from Nat.pow_mul 2 4 v]
  rfl
theorem c56 {c : Nat} (hc : c < 2 ^ 24) : F_56 (nI c) = some (nI (sm (qd c) 6)) := by
  unfold F_56
  have key : lw (G_56_4 (nI c)) 200000 (0, 0) = some (nI (sm (qd c) 6)) := by
    refine lw_seq (fun i => (nI (sm (qd c) i), nI i)) (n := 6) (fun i hi => ?_) ?_ (by decide)
    · simp only [G_56_4]
      rw [z6, if_neg (nI_ge hi (by omega)), c55 hc hi, Option.bind_some, nI_add, z1, nI_add]
      rfl
    · simp only [G_56_4]
      rw [z6, if_pos (nI_le (Nat.le_refl _) (by decide))]
  rw [key, Option.bind_some]
/-- the rest is as it was -/
def OS (o o' : Ol) : Prop := o'.isMade = o.isMade ∧ o'.vertices = o.vertices ∧ o'.edges = o.edges ∧ o'.firstPile = o.firstPile ∧ o'.pileCount = o.pileCount ∧ o'.fewestEmpty = o.fewestEmpty ∧ o'.fewestMoves = o.fewestMoves
theorem OS.refl (o : Ol) : OS o o := ⟨rfl, rfl, rfl, rfl, rfl, rfl, rfl⟩
theorem OS.trans {a b c : Ol} (h : OS a b) (k : OS b c) : OS a c := ⟨k.1.trans h.1, k.2.1.trans h.2.1, k.2.2.1.trans h.2.2.1, k.2.2.2.1.trans h.2.2.2.1, k.2.2.2.2.1.trans h.2.2.2.2.1, k.2.2.2.2.2.1.trans h.2.2.2.2.2.1, k.2.2.2.2.2.2.trans h.2.2.2.2.2.2⟩
theorem o_slots (o : Ol) (f : Nat → Int32) : ∃ y, o.w_slots f = y ∧ y.slots = f ∧ y.row = o.row ∧ OS o y := ⟨_, rfl, rfl, rfl, rfl, rfl, rfl, rfl, rfl, rfl, rfl⟩
theorem o_row (o : Ol) (f : Nat → Int32) : ∃ y, o.w_row f = y ∧ y.slots = o.slots ∧ y.row = f ∧ OS o y := ⟨_, rfl, rfl, rfl, rfl, rfl, rfl, rfl, rfl, rfl, rfl⟩
theorem o_fm (o : Ol) (f : Nat → Int32) : ∃ y, o.w_fewestMoves f = y ∧ y.slots = o.slots ∧ y.row = o.row ∧ y.isMade = o.isMade ∧ y.vertices = o.vertices ∧ y.edges = o.edges ∧ y.firstPile = o.firstPile ∧ y.pileCount = o.pileCount ∧ y.fewestEmpty = o.fewestEmpty ∧ y.fewestMoves = f := ⟨_, rfl, rfl, rfl, rfl, rfl, rfl, rfl, rfl, rfl, rfl⟩
theorem o_fe (o : Ol) (f : Int32) : ∃ y, o.w_fewestEmpty f = y ∧ y.slots = o.slots ∧ y.row = o.row ∧ y.isMade = o.isMade ∧ y.vertices = o.vertices ∧ y.edges = o.edges ∧ y.firstPile = o.firstPile ∧ y.pileCount = o.pileCount ∧ y.fewestEmpty = f ∧ y.fewestMoves = o.fewestMoves := ⟨_, rfl, rfl, rfl, rfl, rfl, rfl, rfl, rfl, rfl, rfl⟩
theorem o_pc (o : Ol) (f : Int32) : ∃ y, o.w_pileCount f = y ∧ y.slots = o.slots ∧ y.row = o.row ∧ y.isMade = o.isMade ∧ y.vertices = o.vertices ∧ y.edges = o.edges ∧ y.firstPile = o.firstPile ∧ y.pileCount = f ∧ y.fewestEmpty = o.fewestEmpty ∧ y.fewestMoves = o.fewestMoves := ⟨_, rfl, rfl, rfl, rfl, rfl, rfl, rfl, rfl, rfl, rfl⟩
/-- the piles it holds -/
def OT (o : Ol) (K : List Nat) : Prop := (∃ S, (∀ j, j < 16384 → o.slots j = nI (S j)) ∧ HT 16384 h1 S K) ∧ ∀ j (hj : j < K.length), o.row j = nI K[j]
theorem c61 {o : Ol} {K : List Nat} (hT : OT o K) (hL : K.length ≤ 8120) (hK : ∀ x, x ∈ K → x < 2 ^ 24) {x : Nat} (hx : x < 2 ^ 24) :
    ∃ o', F_61 o (nI x) (nI K.length) = some (nI (ins K x).length, o') ∧ OT o' (ins K x) ∧ OS o o' := by
  obtain ⟨⟨S, hS, hH⟩, hR⟩ := hT
  obtain ⟨d, hd, hb, hf⟩ := hH.find (by omega) x
  have hbig : ∀ j, j < 16384 → S j < 2 ^ 25 := fun j hj => by
    rcases hH.1 j hj with k | ⟨y, k1, k2⟩
    · omega
    · have := hK y k1; omega
  have hat : ∀ e, (h1 x + e) % 16384 < 16384 := fun e => Nat.mod_lt _ (by decide)
  have e0 : ushr (nI x * (2654435761 : Int32)) 18 = nI ((h1 x + 0) % 16384) := by rw [h1_ok, Nat.add_zero, Nat.mod_eq_of_lt (h1_lt x)]
  have x1 : nI x + 1 = nI (x + 1) := by rw [z1, nI_add]
  have key : ∀ r, G_61_11 o (nI x) (nI K.length) (nI ((h1 x + d) % 16384), nI d) = some (.inr r) → lw (G_61_11 o (nI x) (nI K.length)) 200000 (ushr (nI x * (2654435761 : Int32)) 18, 0) = some r := by
    intro r hr
    rw [e0, z0]
    refine lw_seq (fun i => (nI ((h1 x + i) % 16384), nI i)) (n := d) (fun i hi => ?_) hr (by omega)
    have hs := hat i
    obtain ⟨b1, b2⟩ := hb i hi
    have b3 := hbig _ hs
    simp only [G_61_11]
    rw [show (16384 : Int32) = nI 16384 from rfl, if_neg (nI_ge (by omega) (by decide)), ixn hs (by decide), Option.bind_some, hS _ hs, if_neg (nI_ne0 (by omega) (by omega)), x1, if_pos (by rw [nI_eq (by omega) (by omega)]; exact b2), z1, nI_add, nI_add, pk_andN (k := 14) (by omega) (by decide)]
    rw [show ((h1 x + i) % 16384 + 1) % 2 ^ 14 = (h1 x + (i + 1)) % 16384 by omega]
  have hs := hat d
  have b3 := hbig _ hs
  rcases hf with ⟨k1, k2⟩ | ⟨k1, k2⟩
  · refine ⟨o, ?_, ?_, OS.refl o⟩
    · unfold F_61
      rw [key (.inr (nI K.length, o)) ?_]
      · unfold ins; rw [if_pos k1]; rfl
      · simp only [G_61_11]
        rw [show (16384 : Int32) = nI 16384 from rfl, if_neg (nI_ge (by omega) (by decide)), ixn hs (by decide), Option.bind_some, hS _ hs, if_neg (nI_ne0 (by omega) (by omega)), x1, if_neg (by rw [nI_eq (by omega) (by omega)]; exact fun q => q k2)]
    · unfold ins; rw [if_pos k1]; exact ⟨⟨S, hS, hH⟩, hR⟩
  · obtain ⟨y1, hy1, a1, a2, a3⟩ := o_slots o (upd o.slots ((h1 x + d) % 16384) (nI (x + 1)))
    obtain ⟨y2, hy2, c1, c2, c3⟩ := o_row y1 (upd y1.row K.length (nI x))
    refine ⟨y2, ?_, ?_, a3.trans c3⟩
    · unfold F_61
      rw [key (.inl (nI ((h1 x + d) % 16384))) ?_]
      · simp only [Option.bind_some, J_61_0_j56]
        rw [show (8192 : Int32) = nI 8192 from rfl, if_pos (nI_lt (by omega) (by decide)), ixn hs (by decide), Option.bind_some, x1, hy1, ixn (by omega) (by decide), Option.bind_some, hy2, z1, nI_add]
        unfold ins
        rw [if_neg k1, List.length_append]
        rfl
      · simp only [G_61_11]
        rw [show (16384 : Int32) = nI 16384 from rfl, if_neg (nI_ge (by omega) (by decide)), ixn hs (by decide), Option.bind_some, hS _ hs, k2, if_pos nI_0]
    · unfold ins
      rw [if_neg k1]
      refine ⟨⟨_, fun j hj => ?_, hH.ins hd k2 (fun e he => (hb e he).1)⟩, fun j hj => ?_⟩
      · rw [c1, a1]
        by_cases q : j = (h1 x + d) % 16384
        · rw [q, pk_us, if_pos rfl]
        · rw [pk_un q, if_neg q, hS j hj]
      · rw [c2, a2]
        rw [List.length_append] at hj
        by_cases q : j = K.length
        · subst q
          rw [pk_us, List.getElem_append_right (Nat.le_refl _)]
          simp
        · have : j < K.length := by
            have : j < K.length + 1 := hj
            omega
          rw [pk_un q, hR j this, List.getElem_append_left this]
/-- the empty vertices -/
def em (n c : Nat) : Nat := sm (fun v => if qd c v = 0 then 1 else 0) n
theorem em_le (n c : Nat) : em n c ≤ n := Nat.le_trans (sm_le (c := 1) (fun i _ => by show (if qd c i = 0 then 1 else 0) ≤ 1; split <;> omega)) (by omega)
theorem c59 {o : Ol} {c e : Nat} {x : Int32} (hn : n ≤ 6) (hv : o.vertices = nI n) (he : o.fewestEmpty = nI e) (he6 : e < 100) (hc : c < 2 ^ 24) :
    ∃ o', F_59 o (nI c) x = some o' ∧ o'.slots = o.slots ∧ o'.row = o.row ∧ o'.isMade = o.isMade ∧ o'.vertices = o.vertices ∧ o'.edges = o.edges ∧ o'.firstPile = o.firstPile ∧ o'.pileCount = o.pileCount ∧ o'.fewestEmpty = nI (min e (em n c)) ∧ ∀ v, v < n → o'.fewestMoves v = if ¬ qd c v = 0 ∧ o.fewestMoves v = -1 then x else o.fewestMoves v := by
  have main : ∃ r, lw (G_59_5 (nI c) x) 200000 (0, 0, o) = some r ∧ ∃ o', r = (nI (em n c), o') ∧ o'.slots = o.slots ∧ o'.row = o.row ∧ o'.isMade = o.isMade ∧ o'.vertices = o.vertices ∧ o'.edges = o.edges ∧ o'.firstPile = o.firstPile ∧ o'.pileCount = o.pileCount ∧ o'.fewestEmpty = o.fewestEmpty ∧ ∀ v, v < n → o'.fewestMoves v = if ¬ qd c v = 0 ∧ o.fewestMoves v = -1 then x else o.fewestMoves v := by
    refine lw_for (n := n) (fun i st => ∃ o', st = (nI (em i c), nI i, o') ∧ o'.slots = o.slots ∧ o'.row = o.row ∧ o'.isMade = o.isMade ∧ o'.vertices = o.vertices ∧ o'.edges = o.edges ∧ o'.firstPile = o.firstPile ∧ o'.pileCount = o.pileCount ∧ o'.fewestEmpty = o.fewestEmpty ∧ (∀ v, i ≤ v → o'.fewestMoves v = o.fewestMoves v) ∧ ∀ v, v < i → o'.fewestMoves v = if ¬ qd c v = 0 ∧ o.fewestMoves v = -1 then x else o.fewestMoves v) ?_ ?_ ⟨o, rfl, rfl, rfl, rfl, rfl, rfl, rfl, rfl, rfl, fun _ _ => rfl, fun v hv => absurd hv (Nat.not_lt_zero _)⟩ (by omega)
    · rintro i st hi ⟨o', rfl, a1, a2, a3, a4, a5, a6, a7, a8, a9, a10⟩
      left
      have hi6 : i < 6 := by omega
      have hf := a9 i (Nat.le_refl _)
      have hlt := qd_lt c i
      by_cases q : qd c i = 0
      · refine ⟨(nI (em (i + 1) c), nI (i + 1), o'), ?_, o', rfl, a1, a2, a3, a4, a5, a6, a7, a8, fun v hv => a9 v (by omega), fun v hv => ?_⟩
        · simp only [G_59_5]
          rw [a4, hv, if_neg (nI_ge hi (by omega)), c55 hc hi6, Option.bind_some, q, nI_0, if_neg (fun k => k rfl)]
          simp only [J_59_5_j48]
          rw [z1, nI_add, nI_add]
          unfold em
          rw [sm, if_pos q]
        · by_cases k : v = i
          · subst k; rw [if_neg (fun k => k.1 q), hf]
          · exact a10 v (by omega)
      · have em1 : em (i + 1) c = em i c := by unfold em; rw [sm, if_neg q, Nat.add_zero]
        by_cases k : o.fewestMoves i = -1
        · obtain ⟨y, hy, b1, b2, b3, b4, b5, b6, b7, b8, b9⟩ := o_fm o' (upd o'.fewestMoves i x)
          refine ⟨(nI (em (i + 1) c), nI (i + 1), y), ?_, y, rfl, b1.trans a1, b2.trans a2, b3.trans a3, b4.trans a4, b5.trans a5, b6.trans a6, b7.trans a7, b8.trans a8, fun v hv => ?_, fun v hv => ?_⟩
          · simp only [G_59_5]
            rw [a4, hv, if_neg (nI_ge hi (by omega)), c55 hc hi6, Option.bind_some, if_pos (nI_ne0 (by omega) (by omega)), ixn hi6 (by decide), Option.bind_some, hf, if_neg (fun w => w k), hy, Option.bind_some]
            simp only [J_59_5_j48]
            rw [z1, nI_add, em1]
          · rw [b9, pk_un (by omega)]; exact a9 v (by omega)
          · rw [b9]
            by_cases w : v = i
            · subst w; rw [pk_us, if_pos ⟨q, k⟩]
            · rw [pk_un w]; exact a10 v (by omega)
        · refine ⟨(nI (em (i + 1) c), nI (i + 1), o'), ?_, o', rfl, a1, a2, a3, a4, a5, a6, a7, a8, fun v hv => a9 v (by omega), fun v hv => ?_⟩
          · simp only [G_59_5]
            rw [a4, hv, if_neg (nI_ge hi (by omega)), c55 hc hi6, Option.bind_some, if_pos (nI_ne0 (by omega) (by omega)), ixn hi6 (by decide), Option.bind_some, hf, if_pos k]
            simp only [J_59_5_j48]
            rw [z1, nI_add, em1]
          · by_cases w : v = i
            · subst w; rw [if_neg (fun w => k w.2), hf]
            · exact a10 v (by omega)
    · rintro st ⟨o', rfl, a1, a2, a3, a4, a5, a6, a7, a8, a9, a10⟩
      refine ⟨(nI (em n c), o'), ?_, o', rfl, a1, a2, a3, a4, a5, a6, a7, a8, a10⟩
      simp only [G_59_5]
      rw [a4, hv, if_pos (nI_le (Nat.le_refl _) (by omega))]
  obtain ⟨r, hr, o', rfl, a1, a2, a3, a4, a5, a6, a7, a8, a10⟩ := main
  obtain ⟨y, hy, b1, b2, b3, b4, b5, b6, b7, b8, b9⟩ := o_fe o' (nI (min e (em n c)))
  refine ⟨y, ?_, b1.trans a1, b2.trans a2, b3.trans a3, b4.trans a4, b5.trans a5, b6.trans a6, b7.trans a7, b8, fun v hv => by rw [b9]; exact a10 v hv⟩
  have := em_le n c
  unfold F_59
  rw [hr, Option.bind_some]
  dsimp only
  rw [a8, he, imn_n (by omega) (by omega), hy]
  rfl
theorem two_le {c u : Nat} (h : 2 ≤ qd c u) : 2 * 16 ^ u ≤ c := by
  have h1 : 2 ≤ c / 16 ^ u := Nat.le_trans h (Nat.mod_le _ _)
  exact Nat.le_trans (Nat.mul_le_mul_right _ h1) (Nat.div_mul_le_self _ _)
theorem c60 {W : Wd} (hB : CB n E W.board) (hG : Gr n E) (hp : sm p n ≤ 14) (hv : W.ol.vertices = nI n) {K : List Nat} (hK : LI n p K) (hT : OT W.ol K) {c : Nat} (hc : VC n p c) :
    ∃ o', F_60 W (nI c) (nI K.length) = some (nI (wk2 n E c K n).length, W.w_ol o') ∧ OT o' (wk2 n E c K n) ∧ OS W.ol o' := by
  have hn := hG.2.1
  have c24 := p24 hc.1 hn
  have small : ∀ {K}, LI n p K → K.length ≤ 8120 ∧ ∀ x, x ∈ K → x < 2 ^ 24 := fun {K} h => ⟨LI_few hn hp h, fun x hx => p24 (h.2 x hx).1 hn⟩
  have inner : ∀ {o K u}, u < n → 2 ≤ qd c u → LI n p K → OT o K → o.vertices = nI n → ∃ r, lw (G_60_46 (nI c) (nI u) (nI (c - 2 * 16 ^ u)) (nI (nb E u))) 200000 (nI K.length, 0, W.w_ol o) = some r ∧ ∃ o', r = (nI (wk1 E c u K n).length, W.w_ol o') ∧ OT o' (wk1 E c u K n) ∧ OS o o' := by
    intro o K u hu h2 hK hT hv
    refine lw_for (n := n) (fun i st => ∃ o', st = (nI (wk1 E c u K i).length, nI i, W.w_ol o') ∧ OT o' (wk1 E c u K i) ∧ OS o o') ?_ ?_ ⟨o, rfl, hT, OS.refl o⟩ (by omega)
    · rintro i st hi ⟨o', rfl, a1, a2⟩
      left
      have hL := LI_wk1 hG hp hK hc hu h2 i (by omega)
      have hb : (nb E u).testBit i = ad E u i := by rw [nb_bit, decide_eq_true (by omega), Bool.true_and]
      have hnb := nb_lt E u
      have hvo : (W.w_ol o').ol.vertices = nI n := a2.2.1.trans hv
      by_cases q : ad E u i = true
      · have hne := hG.ne hi q
        have hV := VC_mv hc hp hu hi (fun h => hne h) h2
        obtain ⟨o2, e2, t2, s2⟩ := c61 a1 (small hL).1 (small hL).2 (p24 hV.1 hn)
        have w1 : wk1 E c u K (i + 1) = ins (wk1 E c u K i) (qm c u i) := by rw [wk1, if_pos q]
        refine ⟨(nI (wk1 E c u K (i + 1)).length, nI (i + 1), W.w_ol o2), ?_, o2, rfl, by rw [w1]; exact t2, a2.trans s2⟩
        simp only [G_60_46]
        rw [hvo, if_neg (nI_ge hi (by omega)), if_neg (by rw [tb0 (by omega) (by omega)]; rw [hb, q]; exact fun w => w rfl), z4, pk_mul, z1, shl_n 1 (by omega), nI_add, show c - 2 * 16 ^ u + 1 <<< (4 * i) = qm c u i by rw [Nat.shiftLeft_eq, Nat.one_mul, show 2 ^ (4 * i) = 16 ^ i from Nat.pow_mul 2 4 i]; rfl]
        rw [show (W.w_ol o').ol = o' from rfl, e2, Option.bind_some]
        simp only [J_60_46_j82, Option.bind_some]
        rw [z1, nI_add, w1]
        rfl
      · have w1 : wk1 E c u K (i + 1) = wk1 E c u K i := by rw [wk1, if_neg q]
        refine ⟨(nI (wk1 E c u K (i + 1)).length, nI (i + 1), W.w_ol o'), ?_, o', rfl, by rw [w1]; exact a1, a2⟩
        simp only [G_60_46]
        rw [hvo, if_neg (nI_ge hi (by omega)), if_pos (by rw [tb0 (by omega) (by omega), hb]; exact q)]
        simp only [J_60_46_j82]
        rw [z1, nI_add, w1]
    · rintro st ⟨o', rfl, a1, a2⟩
      refine ⟨(nI (wk1 E c u K n).length, W.w_ol o'), ?_, o', rfl, a1, a2⟩
      simp only [G_60_46]
      rw [show (W.w_ol o').ol.vertices = nI n from a2.2.1.trans hv, if_pos (nI_le (Nat.le_refl _) (by omega))]
  have outer : ∃ r, lw (G_60_6 (nI c)) 200000 (nI K.length, 0, W) = some r ∧ ∃ o', r = (nI (wk2 n E c K n).length, W.w_ol o') ∧ OT o' (wk2 n E c K n) ∧ OS W.ol o' := by
    refine lw_for (n := n) (fun i st => ∃ o', st = (nI (wk2 n E c K i).length, nI i, W.w_ol o') ∧ OT o' (wk2 n E c K i) ∧ OS W.ol o') ?_ ?_ ⟨W.ol, rfl, hT, OS.refl _⟩ (by omega)
    · rintro i st hi ⟨o', rfl, a1, a2⟩
      left
      have hL := LI_wk2 hG hp hK hc i (by omega)
      have hvo : (W.w_ol o').ol.vertices = nI n := a2.2.1.trans hv
      have hlt := qd_lt c i
      by_cases q : 2 ≤ qd c i
      · obtain ⟨r, e2, o2, rfl, t2, s2⟩ := inner hi q hL a1 (a2.2.1.trans hv)
        have w1 : wk2 n E c K (i + 1) = wk1 E c i (wk2 n E c K i) n := by rw [wk2, if_pos q]
        refine ⟨(nI (wk2 n E c K (i + 1)).length, nI (i + 1), W.w_ol o2), ?_, o2, rfl, by rw [w1]; exact t2, a2.trans s2⟩
        simp only [G_60_6]
        rw [hvo, if_neg (nI_ge hi (by omega)), c55 c24 (by omega), Option.bind_some, z2, if_neg (nI_nlt (b := 2) q (by omega)), show (W.w_ol o').board = W.board from rfl, c9 hB hG.E_lt (by omega), Option.bind_some, z4, pk_mul, shl_n 2 (by omega), show 2 <<< (4 * i) = 2 * 16 ^ i by rw [Nat.shiftLeft_eq, show 2 ^ (4 * i) = 16 ^ i from Nat.pow_mul 2 4 i], pk_sub (two_le q), e2, Option.bind_some]
        simp only [J_60_6_j88]
        rw [z1, nI_add, w1]
      · have w1 : wk2 n E c K (i + 1) = wk2 n E c K i := by rw [wk2, if_neg q]
        refine ⟨(nI (wk2 n E c K (i + 1)).length, nI (i + 1), W.w_ol o'), ?_, o', rfl, by rw [w1]; exact a1, a2⟩
        simp only [G_60_6]
        rw [hvo, if_neg (nI_ge hi (by omega)), c55 c24 (by omega), Option.bind_some, z2, if_pos (nI_lt (by omega) (by decide))]
        simp only [J_60_6_j88]
        rw [z1, nI_add, w1]
    · rintro st ⟨o', rfl, a1, a2⟩
      refine ⟨(nI (wk2 n E c K n).length, W.w_ol o'), ?_, o', rfl, a1, a2⟩
      simp only [G_60_6]
      rw [show (W.w_ol o').ol.vertices = nI n from a2.2.1.trans hv, if_pos (nI_le (Nat.le_refl _) (by omega))]
  obtain ⟨r, hr, o', rfl, a1, a2⟩ := outer
  refine ⟨o', ?_, a1, a2⟩
  unfold F_60
  rw [hr]
  rfl
