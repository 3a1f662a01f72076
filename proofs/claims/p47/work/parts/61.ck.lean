/-! ===== CHECKS, EDGES, PILES, STRATEGIES: of the class alone (whole's 77, 78, 89, 92 - 95, 9a - 9e) ===== -/
/-! ===== THE SETUP TEXT: an edge laid ===== -/
section PARSE
variable {n E : Nat}
/-- with the edge `u v` -/
def ae (E u v : Nat) : Nat := E ||| eb u v
theorem ae_ad {E u v x y : Nat} (hu : u < 6) (hv : v < 6) (hy : y < 6) : ad (ae E u v) x y = (ad E x y || (decide (x = u ∧ y = v) || decide (x = v ∧ y = u))) := by
  unfold ad ae eb
  rw [Nat.testBit_or, Nat.testBit_or, ← Nat.one_shiftLeft, ← Nat.one_shiftLeft, one_shl_bit, one_shl_bit]
  congr 1
  have e1 : (6 * x + y = 6 * u + v) ↔ (x = u ∧ y = v) := by omega
  have e2 : (6 * x + y = 6 * v + u) ↔ (x = v ∧ y = u) := by omega
  rw [decide_eq_decide.2 e1, decide_eq_decide.2 e2]
theorem ae_nb {E u v x : Nat} (hu : u < 6) (hv : v < 6) (hx : x < 6) : nb (ae E u v) x = (nb E x ||| (if x = u then 1 <<< v else 0)) ||| (if x = v then 1 <<< u else 0) := by
  refine bit_ext fun j => ?_
  rw [nb_bit, Nat.testBit_or, Nat.testBit_or, nb_bit]
  by_cases hj : j < 6
  · rw [decide_eq_true hj, Bool.true_and, Bool.true_and, ae_ad hu hv hj, Bool.or_assoc]
    congr 1
    congr 1
    · by_cases q : x = u
      · rw [if_pos q, one_shl_bit]; exact decide_eq_decide.2 ⟨fun h => h.2, fun h => ⟨q, h⟩⟩
      · rw [if_neg q, Nat.zero_testBit]; exact decide_eq_false fun h => q h.1
    · by_cases q : x = v
      · rw [if_pos q, one_shl_bit]; exact decide_eq_decide.2 ⟨fun h => h.2, fun h => ⟨q, h⟩⟩
      · rw [if_neg q, Nat.zero_testBit]; exact decide_eq_false fun h => q h.1
  · rw [decide_eq_false hj, Bool.false_and, Bool.false_and, Bool.false_or]
    have a : (if x = u then 1 <<< v else 0).testBit j = false := by
      split
      · rw [one_shl_bit]; exact decide_eq_false (by omega)
      · exact Nat.zero_testBit _
    have c : (if x = v then 1 <<< u else 0).testBit j = false := by
      split
      · rw [one_shl_bit]; exact decide_eq_false (by omega)
      · exact Nat.zero_testBit _
    rw [a, c]; rfl
theorem Gr.ae (hG : Gr n E) {u v : Nat} (hu : u < n) (hv : v < n) (hne : ¬ u = v) : Gr n (ae E u v) := by
  have hn := hG.2.1
  refine ⟨hG.1, hn, fun x y hy h => ?_⟩
  rw [ae_ad (by omega) (by omega) hy, Bool.or_eq_true, Bool.or_eq_true, decide_eq_true_eq, decide_eq_true_eq] at h
  rcases h with h | ⟨rfl, rfl⟩ | ⟨rfl, rfl⟩
  · obtain ⟨a, b, c, d⟩ := hG.2.2 x y hy h
    refine ⟨a, b, c, ?_⟩
    rw [ae_ad (by omega) (by omega) (by omega), d]
    rfl
  · refine ⟨hu, hv, hne, ?_⟩
    rw [ae_ad (by omega) (by omega) (by omega), decide_eq_true (p := y = y ∧ x = x) ⟨rfl, rfl⟩, Bool.or_true, Bool.or_true]
  · refine ⟨hv, hu, fun z => hne z.symm, ?_⟩
    rw [ae_ad (by omega) (by omega) (by omega), decide_eq_true (p := y = y ∧ x = x) ⟨rfl, rfl⟩, Bool.true_or, Bool.or_true]
theorem l_or (a b : Nat) : lN a ||| lN b = lN (a ||| b) := by
  apply Int64.toBitVec_inj.1
  show BitVec.ofNat 64 a ||| BitVec.ofNat 64 b = BitVec.ofNat 64 (a ||| b)
  apply BitVec.eq_of_getLsbD_eq
  intro i hi
  simp [hi]
theorem bd_edges (B : Bd) (x : Int64) : ∃ y, B.w_edges x = y ∧ y.edges = x ∧ y.vertices = B.vertices ∧ y.pile = B.pile ∧ y.moveCount = B.moveCount ∧ y.strategyCount = B.strategyCount ∧ y.targets = B.targets ∧ y.weights = B.weights ∧ y.parents = B.parents := ⟨_, rfl, rfl, rfl, rfl, rfl, rfl, rfl, rfl, rfl⟩
/-- the class lays an edge -/
theorem c4 {B : Bd} (hB : CB n E B) {u v : Nat} (hu : u < 6) (hv : v < 6) : ∃ B', F_4 B (nI u) (nI v) = some B' ∧ CB n (ae E u v) B' ∧ B'.pile = B.pile ∧ B'.moveCount = B.moveCount ∧ B'.strategyCount = B.strategyCount ∧ B'.targets = B.targets ∧ B'.weights = B.weights ∧ B'.parents = B.parents := by
  obtain ⟨y, hy, a1, a2, a3⟩ := bd_edges B (lN (ae E u v))
  refine ⟨y, ?_, ⟨a2.trans hB.1, a1⟩, a3⟩
  unfold F_4
  rw [c3 hu hv, Option.bind_some, hB.2, l_or]
  show (some (B.w_edges (lN (ae E u v)))).bind _ = _
  rw [hy]
  rfl
end PARSE
/-! ===== THE SETUP TEXT: the beginning ===== -/
section PARSE
variable {n : Nat} {tg : Nat → Nat} {wt : Nat → Nat → Nat} {pr : Nat → Nat → Option Nat}
theorem nb_zero (v : Nat) : nb 0 v = 0 := by unfold nb; rw [Nat.zero_shiftRight]
theorem ad_zero (u v : Nat) : ad 0 u v = false := Nat.zero_testBit _
theorem Gr.zero (h1 : 1 ≤ n) (h6 : n ≤ 6) : Gr n 0 := ⟨h1, h6, fun u v _ h => by rw [ad_zero] at h; cases h⟩
theorem bd_begin (B : Bd) (x : Int32) (f : Nat → Int32) : ∃ y, ((((B.w_vertices x).w_edges 0).w_moveCount 0).w_strategyCount 0).w_pile f = y ∧ y.vertices = x ∧ y.edges = 0 ∧ y.moveCount = 0 ∧ y.strategyCount = 0 ∧ y.pile = f := ⟨_, rfl, rfl, rfl, rfl, rfl, rfl⟩
theorem c1 (B : Bd) : ∃ B', F_1 B (nI n) = some B' ∧ CB n 0 B' ∧ CP (fun _ => 0) B' ∧ B'.moveCount = 0 ∧ CS n 0 tg wt pr B' := by
  obtain ⟨f, e, k⟩ := f261 6 B.pile 0 (by decide)
  obtain ⟨y, hy, a1, a2, a3, a4, a5⟩ := bd_begin B (nI n) f
  refine ⟨y, ?_, ⟨a1, a2⟩, fun v hv => by rw [a5, k, if_pos hv, nI_0], a3, a4, fun k hk => absurd hk (Nat.not_lt_zero _)⟩
  unfold F_1
  simp only [Option.bind_some]
  show (F_261 6 B.pile 0).bind _ = _
  rw [e, Option.bind_some, hy]
end PARSE
/-! ===== THE WORLD AND THE MODEL, SIDE BY SIDE ===== -/
theorem bI_or (b : Bool) : bI b = 0 ∨ bI b = 1 := by cases b <;> decide
/-- the class's checks -/
theorem c124 {W : Wd} {n E : Nat} (hB : CB n E W.board) (hn : n < 2 ^ 31) (x : Int32) : (isv n x = true ∧ F_124 W x = some (.inl (), W)) ∨ (isv n x = false ∧ F_124 W x = some (.inr 2, W.thr)) := by
  unfold F_124 J_124_0_j15
  rw [hB.1]
  unfold isv
  by_cases h0 : x < 0
  · right
    refine ⟨decide_eq_false fun ⟨h1, _⟩ => absurd h0 (by rw [Int32.not_lt]; exact h1), ?_⟩
    rw [if_pos h0]
  · by_cases h1 : x < nI n
    · left
      refine ⟨decide_eq_true ⟨by rw [← Int32.not_lt]; exact h0, h1⟩, ?_⟩
      rw [if_neg h0, if_pos h1]
    · right
      refine ⟨decide_eq_false fun ⟨_, h2⟩ => h1 h2, ?_⟩
      rw [if_neg h0, if_neg h1]
/-! ===== THE TEXT'S CALLS ===== -/
section TXT
variable {b : Nat → Nat} {len k : Nat} {W : Wd}
theorem le_nI {x : Int32} {m : Nat} (hm : m < 2 ^ 31) (h0 : 0 ≤ x) (h1 : x ≤ nI m) : ∃ a, a ≤ m ∧ x = nI a := by
  have h0' := Int32.le_iff_toInt_le.1 h0
  have h1' := Int32.le_iff_toInt_le.1 h1
  rw [nI_toInt hm] at h1'
  have z : (0 : Int32).toInt = 0 := by decide
  rw [z] at h0'
  refine ⟨x.toInt.toNat, by omega, ?_⟩
  apply Int32.toInt_inj.mp
  rw [nI_toInt (by omega)]
  omega
end TXT
/-! ===== LOADING ===== -/
section LD
variable {k : Nat} {W : Wd}
theorem bd_dist (B : Bd) (f : Nat → Int32) : ∃ y, B.w_distances f = y ∧ y.vertices = B.vertices ∧ y.edges = B.edges ∧ y.moveCount = B.moveCount ∧ y.strategyCount = B.strategyCount ∧ y.pile = B.pile ∧ y.targets = B.targets ∧ y.weights = B.weights ∧ y.parents = B.parents ∧ y.distances = f := ⟨_, rfl, rfl, rfl, rfl, rfl, rfl, rfl, rfl, rfl, rfl⟩
end LD
/-! ===== MORE READING CALLS ===== -/
section RE
variable {k : Nat} {W : Wd}
theorem xq_l {α β : Type} {a : α} {f : Nat → Option β} {g : α → Option β} : xq (.inl a) f g = g a := rfl
end RE
/-! ===== READING CALLS ===== -/
section RD
variable {k : Nat} {W : Wd}
theorem c124t {n E v : Nat} (hB : CB n E W.board) (hn : n < 2 ^ 31) (hv : v < n) : F_124 W (nI v) = some (.inl (), W) := by
  rcases c124 hB hn (nI v) with ⟨h, e⟩ | ⟨h, e⟩
  · exact e
  · rw [isv_t hv hn] at h
    cases h
theorem c124f {n E : Nat} (hB : CB n E W.board) (hn : n < 2 ^ 31) {x : Int32} (hv : isv n x = false) : F_124 W x = some (.inr 2, W.thr) := by
  rcases c124 hB hn x with ⟨h, e⟩ | ⟨h, e⟩
  · rw [hv] at h
    cases h
  · exact e
end RD
/-! ===== THE STRATEGIES' READING CALLS ===== -/
section RS
variable {k : Nat} {W : Wd}
theorem c126 {n sc : Nat} {tg : Nat → Nat} {wt : Nat → Nat → Nat} {pr : Nat → Nat → Option Nat} (hS : CS n sc tg wt pr W.board) (hn : sc < 2 ^ 31) (x : Int32) : (isv sc x = true ∧ F_126 W x = some (.inl (), W)) ∨ (isv sc x = false ∧ F_126 W x = some (.inr 2, W.thr)) := by
  unfold F_126 J_126_0_j15
  rw [hS.1]
  unfold isv
  by_cases h0 : x < 0
  · right
    refine ⟨decide_eq_false fun ⟨h1, _⟩ => absurd h0 (by rw [Int32.not_lt]; exact h1), ?_⟩
    rw [if_pos h0]
  · by_cases h1 : x < nI sc
    · left
      refine ⟨decide_eq_true ⟨by rw [← Int32.not_lt]; exact h0, h1⟩, ?_⟩
      rw [if_neg h0, if_pos h1]
    · right
      refine ⟨decide_eq_false fun ⟨_, h2⟩ => h1 h2, ?_⟩
      rw [if_neg h0, if_neg h1]
theorem c126t {n sc v : Nat} {tg : Nat → Nat} {wt : Nat → Nat → Nat} {pr : Nat → Nat → Option Nat} (hS : CS n sc tg wt pr W.board) (hn : sc < 2 ^ 31) (hv : v < sc) : F_126 W (nI v) = some (.inl (), W) := by
  rcases c126 hS hn (nI v) with ⟨h, e⟩ | ⟨h, e⟩
  · exact e
  · rw [isv_t hv hn] at h
    cases h
theorem c126f {n sc : Nat} {tg : Nat → Nat} {wt : Nat → Nat → Nat} {pr : Nat → Nat → Option Nat} (hS : CS n sc tg wt pr W.board) (hn : sc < 2 ^ 31) {x : Int32} (hv : isv sc x = false) : F_126 W x = some (.inr 2, W.thr) := by
  rcases c126 hS hn x with ⟨h, e⟩ | ⟨h, e⟩
  · rw [hv] at h
    cases h
  · exact e
end RS
/-! ===== EDGES LAID AND TAKEN, IN A POSITION ===== -/
section GE
variable {n E u v : Nat}
theorem bl_sub {E' : Nat} (h : Gr n E) (h' : Gr n E') (hs : ∀ x y, y < 6 → ad E x y = true → ad E' x y = true) {w : Nat} : ∀ {k j : Nat}, (bl n E w k).testBit j = true → (bl n E' w k).testBit j = true
  | 0, j, hj => hj
  | k + 1, j, hj => by
    rw [bl_succ h] at hj
    rw [bl_succ h']
    rcases hj with hj | ⟨h1, x, h2, h3, h4⟩
    · exact .inl (bl_sub h h' hs hj)
    · exact .inr ⟨h1, x, h2, bl_sub h h' hs h3, hs x j (by have := h.2.1; omega) h4⟩
theorem Cn.ae (hC : Cn n E) (hG : Gr n E) (hu : u < n) (hv : v < n) (hne : ¬ u = v) : Cn n (ae E u v) := by
  have hn := hG.2.1
  intro w hw
  refine bl_sub hG (hG.ae hu hv hne) (fun x y hy h => ?_) (hC w hw)
  rw [ae_ad (by omega) (by omega) hy, h]
  rfl
/-- without the edge `u v` -/
def re (E u v : Nat) : Nat := nd E (eb u v)
theorem re_ad {x y : Nat} (hu : u < 6) (hv : v < 6) (hy : y < 6) : ad (re E u v) x y = (ad E x y && !(decide (x = u ∧ y = v) || decide (x = v ∧ y = u))) := by
  unfold ad re eb
  rw [nd_bit, Nat.testBit_or, ← Nat.one_shiftLeft, ← Nat.one_shiftLeft, one_shl_bit, one_shl_bit]
  have e1 : (6 * x + y = 6 * u + v) ↔ (x = u ∧ y = v) := by omega
  have e2 : (6 * x + y = 6 * v + u) ↔ (x = v ∧ y = u) := by omega
  rw [decide_eq_decide.2 e1, decide_eq_decide.2 e2]
theorem Gr.re (hG : Gr n E) (hu : u < 6) (hv : v < 6) : Gr n (re E u v) := by
  have hn := hG.2.1
  refine ⟨hG.1, hn, fun x y hy h => ?_⟩
  rw [re_ad hu hv hy, Bool.and_eq_true] at h
  obtain ⟨a, b, c, d⟩ := hG.2.2 x y hy h.1
  refine ⟨a, b, c, ?_⟩
  rw [re_ad hu hv (by omega), d, Bool.true_and]
  have h2 := h.2
  rw [Bool.not_eq_true', Bool.or_eq_false_iff, decide_eq_false_iff_not, decide_eq_false_iff_not] at h2
  rw [Bool.not_eq_true', Bool.or_eq_false_iff, decide_eq_false_iff_not, decide_eq_false_iff_not]
  exact ⟨fun z => h2.2 ⟨z.2, z.1⟩, fun z => h2.1 ⟨z.2, z.1⟩⟩
theorem fa_xor (a b : Nat) : nI a ^^^ nI b = nI (a ^^^ b) := by
  apply b_ext
  intro i hi
  rw [b_xor, bt_nI hi, bt_nI hi, bt_nI hi, Nat.testBit_xor]
theorem l_nd (a b : Nat) : lN a &&& (lN b ^^^ (18446744073709551615 : Int64)) = lN (nd a b) := by
  apply Int64.toBitVec_inj.1
  show BitVec.ofNat 64 a &&& (BitVec.ofNat 64 b ^^^ BitVec.ofNat 64 18446744073709551615) = BitVec.ofNat 64 (nd a b)
  apply BitVec.eq_of_getLsbD_eq
  intro i hi
  rw [BitVec.getLsbD_and, BitVec.getLsbD_xor, BitVec.getLsbD_ofNat, BitVec.getLsbD_ofNat, BitVec.getLsbD_ofNat, BitVec.getLsbD_ofNat, nd_bit, decide_eq_true hi, show (18446744073709551615 : Nat) = 2 ^ 64 - 1 from rfl, Nat.testBit_two_pow_sub_one, decide_eq_true hi]
  cases a.testBit i <;> cases b.testBit i <;> rfl
/-- the class takes an edge -/
theorem c5 {B : Bd} (hB : CB n E B) (hu : u < 6) (hv : v < 6) : ∃ B', F_5 B (nI u) (nI v) = some B' ∧ CB n (re E u v) B' ∧ B'.pile = B.pile ∧ B'.moveCount = B.moveCount ∧ B'.strategyCount = B.strategyCount ∧ B'.targets = B.targets ∧ B'.weights = B.weights ∧ B'.parents = B.parents := by
  obtain ⟨y, hy, a1, a2, a3⟩ := bd_edges B (lN (re E u v))
  refine ⟨y, ?_, ⟨a2.trans hB.1, a1⟩, a3⟩
  unfold F_5
  rw [c3 hu hv, Option.bind_some, hB.2, l_nd]
  show (some (B.w_edges (lN (re E u v)))).bind _ = _
  rw [hy]
  rfl
theorem c12 {B : Bd} (hB : CB n E B) (hG : Gr n E) (hu : u < 6) (hv : v < 6) : F_12 B (nI u) (nI v) = some (bI (decide (pcn (bl n (re E u v) 0 (n - 1)) n = n))) := by
  unfold F_12
  rw [c3 hu hv, Option.bind_some, hB.2, l_nd, show nd E (eb u v) = re E u v from rfl, c10 hB (hG.re hu hv), Option.bind_some]
  exact bI_ok
end GE
/-! ===== CHANGES: what is kept, what is refused ===== -/
section CHG
variable {k c : Nat} {W V : Wd}
end CHG
/-! ===== EDGES LAID AND TAKEN: the calls ===== -/
section EDG
variable {k : Nat} {W : Wd}
theorem c125t {n E u v : Nat} (hB : CB n E W.board) (hn : n < 2 ^ 31) (hu : u < n) (hv : v < n) (hne : ¬ nI u = nI v) : F_125 W (nI u) (nI v) = some (.inl (), W) := by
  unfold F_125
  rw [c124t hB hn hu, Option.bind_some]
  dsimp only
  rw [xq_l, c124t hB hn hv, Option.bind_some]
  dsimp only
  rw [xq_l, if_pos hne]
theorem c125e {n E u : Nat} (hB : CB n E W.board) (hn : n < 2 ^ 31) (hu : u < n) : F_125 W (nI u) (nI u) = some (.inr 1, W.thr) := by
  unfold F_125
  rw [c124t hB hn hu, Option.bind_some]
  dsimp only
  rw [xq_l, c124t hB hn hu, Option.bind_some]
  dsimp only
  rw [xq_l, if_neg (fun z => z rfl)]
theorem c125f {n E : Nat} {x z : Int32} (hB : CB n E W.board) (hn : n < 2 ^ 31) (hv : (isv n x && isv n z) = false) : F_125 W x z = some (.inr 2, W.thr) := by
  unfold F_125
  cases hx : isv n x with
  | false =>
    rw [c124f hB hn hx]
    rfl
  | true =>
    obtain ⟨u, hu, rfl⟩ := isv_of hn hx
    rw [hx, Bool.true_and] at hv
    rw [c124t hB hn hu, Option.bind_some]
    dsimp only
    rw [xq_l, c124f hB hn hv]
    rfl
theorem refuse (V : Wd) (r : Int32) : F_128 V r = some (.inr 0, (V.w_pp (V.pp.w_refusal r)).thr) := rfl
theorem xq_r {α β : Type} {a : Nat} {f : Nat → Option β} {g : α → Option β} : xq (.inr a) f g = f a := rfl
end EDG
/-! ===== PUT, TAKE, MOVE ===== -/
section PTM
variable {k : Nat} {W : Wd}
theorem bd_pl (B : Bd) (f : Nat → Int32) : ∃ y, B.w_pile f = y ∧ y.vertices = B.vertices ∧ y.edges = B.edges ∧ y.distances = B.distances ∧ y.strategyCount = B.strategyCount ∧ y.targets = B.targets ∧ y.weights = B.weights ∧ y.parents = B.parents ∧ y.pile = f ∧ y.moveCount = B.moveCount := ⟨_, rfl, rfl, rfl, rfl, rfl, rfl, rfl, rfl, rfl, rfl⟩
theorem bd_pm (B : Bd) (f : Nat → Int32) (m : Int32) : ∃ y, (B.w_pile f).w_moveCount m = y ∧ y.vertices = B.vertices ∧ y.edges = B.edges ∧ y.distances = B.distances ∧ y.strategyCount = B.strategyCount ∧ y.targets = B.targets ∧ y.weights = B.weights ∧ y.parents = B.parents ∧ y.pile = f ∧ y.moveCount = m := ⟨_, rfl, rfl, rfl, rfl, rfl, rfl, rfl, rfl, rfl, rfl⟩
theorem in_99 {z : Int32} (h : 1 ≤ z ∧ z ≤ 99) : ∃ a, 1 ≤ a ∧ a ≤ 99 ∧ z = nI a := by
  have h0 : (0 : Int32) ≤ z := Int32.le_trans (by decide) h.1
  obtain ⟨a, ha, rfl⟩ := le_nI (m := 99) (by decide) h0 h.2
  refine ⟨a, ?_, ha, rfl⟩
  rcases Nat.eq_zero_or_pos a with rfl | q
  · exact absurd h.1 (by decide)
  · exact q
theorem up_cp {B : Bd} {pl : Nat → Nat} {v a : Nat} (qP : CP pl B) (hv : v < 6) : ∃ D, B.w_pile (upd B.pile v (nI a)) = D ∧ CP (fun w => if w = v then a else pl w) D ∧ D.vertices = B.vertices ∧ D.edges = B.edges ∧ D.distances = B.distances ∧ D.strategyCount = B.strategyCount ∧ D.targets = B.targets ∧ D.weights = B.weights ∧ D.parents = B.parents ∧ D.moveCount = B.moveCount := by
  obtain ⟨D, hD, d1, d2, d3, d4, d5, d6, d7, d8, d9⟩ := bd_pl B (upd B.pile v (nI a))
  refine ⟨D, hD, fun w hw => ?_, d1, d2, d3, d4, d5, d6, d7, d9⟩
  rw [d8]
  show _ = nI (if w = v then a else pl w)
  by_cases q : w = v
  · subst q; rw [pk_us, if_pos rfl]
  · rw [pk_un q, if_neg q]; exact qP w hw
theorem pmv_le {pl : Nat → Nat} {u v : Nat} (h9 : ∀ v, v < 6 → pl v ≤ 999) (hu : u < 6) (hv : pl v < 999) (hne : ¬ u = v) : ∀ w, w < 6 → pmv pl u v w ≤ 999 := by
  intro w hw
  unfold pmv
  have := h9 u hu
  have := h9 w hw
  rw [if_neg (fun z : v = u => hne z.symm)]
  split
  · omega
  · split <;> omega
end PTM
/-! ===== STRATEGIES OPENED, CHANGED, DROPPED ===== -/
section STC
variable {k : Nat} {W : Wd}
theorem bd_sb5 (B : Bd) (f g h : Nat → Int32) (c : Int32) : ∃ y, sbw B f g h c = y ∧ y.vertices = B.vertices ∧ y.edges = B.edges ∧ y.distances = B.distances ∧ y.pile = B.pile ∧ y.moveCount = B.moveCount ∧ y.strategyCount = c := ⟨_, rfl, rfl, rfl, rfl, rfl, rfl, rfl⟩
theorem bd_wp5 (B : Bd) (f g : Nat → Int32) : ∃ y, (B.w_weights f).w_parents g = y ∧ y.vertices = B.vertices ∧ y.edges = B.edges ∧ y.distances = B.distances ∧ y.pile = B.pile ∧ y.moveCount = B.moveCount := ⟨_, rfl, rfl, rfl, rfl, rfl, rfl⟩
end STC
/-! ===== REACH ===== -/
section RCH
variable {k : Nat} {W : Wd} {n E t : Nat}
theorem lw_inv {S X : Type} {f : S → Option (S ⊕ X)} {I : S → Prop} {J : X → Prop} (h1 : ∀ s u, I s → f s = some (.inl u) → I u) (h2 : ∀ s x, I s → f s = some (.inr x) → J x) : ∀ (k : Nat) (s : S) (x : X), I s → lw f k s = some x → J x
  | 0, s, x, _, h => by cases h
  | k + 1, s, x, hI, h => by
    unfold lw at h
    cases hf : f s with
    | none => rw [hf] at h; cases h
    | some r =>
      rw [hf] at h
      cases r with
      | inl u => exact lw_inv h1 h2 k u x (h1 s u hI hf) h
      | inr y =>
        cases h
        exact h2 s x hI hf
theorem pmv_sm {p : Nat → Nat} {u v : Nat} (hu : u < n) (hv : v < n) (hne : ¬ u = v) (h2 : 2 ≤ p u) : sm (pmv p u v) n + 1 = sm p n := by
  have e1 := sm_upd (f := p) (g := fun w => if w = u then p u - 2 else p w) hu (fun w _ hw => if_neg hw)
  have e2 := sm_upd (f := fun w => if w = u then p u - 2 else p w) (g := pmv p u v) hv (fun w _ hw => by
    show (if w = v then _ else if w = u then p u - 2 else p w) = _
    rw [if_neg hw])
  have e3 : pmv p u v v = p v + 1 := by
    unfold pmv
    rw [if_pos rfl, if_neg (fun z : v = u => hne z.symm)]
  have e4 : (if u = u then p u - 2 else p u) = p u - 2 := if_pos rfl
  have e5 : (if v = u then p u - 2 else p v) = p v := if_neg (fun z => hne z.symm)
  have e6 := sm_mem (f := p) hu
  rw [e4] at e1
  rw [e5, e3] at e2
  omega
theorem nxm_ex {p : Nat → Nat} (hG : Gr n E) (hC : Cn n E) (ht : t < n) (hh : hold n E t p = false) (h0 : p t = 0) : ∃ x y, x < n ∧ y < n ∧ nxm n E t p = some (10 * x + y) ∧ mv E p x y = true ∧ hold n E t (pmv p x y) = false := by
  cases hq : nxm n E t p with
  | none =>
    obtain ⟨x, y, hx, hy, hg⟩ := gd_ex hG hC ht hh h0
    rw [nmv_none hq x y (Nat.zero_le _) (by omega) hy] at hg
    cases hg
  | some m =>
    obtain ⟨x, y, hx, hy, rfl, hg⟩ := nmv_some hq
    obtain ⟨g1, g2⟩ := (Bool.and_eq_true _ _).mp hg
    exact ⟨x, y, by omega, hy, rfl, g1, by
      cases h : hold n E t (pmv p x y) with
      | false => rfl
      | true => rw [h] at g2; cases g2⟩
end RCH
section RCO
variable {k : Nat} {W : Wd}
end RCO
