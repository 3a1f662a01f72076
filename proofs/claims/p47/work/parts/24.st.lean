/-! ===== THE STATES OF THE OBJECTS (by wip/p47/mk24.py) ===== -/
def Bd : Type := Int32 × Int64 × Int32 × Int32 × (Nat → Int32) × (Nat → Int32) × (Nat → Int32) × (Nat → Int32) × (Nat → Int32)
def Bd.vertices (S : Bd) : Int32 := S.1
def Bd.edges (S : Bd) : Int64 := S.2.1
def Bd.moveCount (S : Bd) : Int32 := S.2.2.1
def Bd.strategyCount (S : Bd) : Int32 := S.2.2.2.1
def Bd.pile (S : Bd) : (Nat → Int32) := S.2.2.2.2.1
def Bd.distances (S : Bd) : (Nat → Int32) := S.2.2.2.2.2.1
def Bd.targets (S : Bd) : (Nat → Int32) := S.2.2.2.2.2.2.1
def Bd.weights (S : Bd) : (Nat → Int32) := S.2.2.2.2.2.2.2.1
def Bd.parents (S : Bd) : (Nat → Int32) := S.2.2.2.2.2.2.2.2
def Bd.w_vertices (S : Bd) (v : Int32) : Bd := (v, S.2.1, S.2.2.1, S.2.2.2.1, S.2.2.2.2.1, S.2.2.2.2.2.1, S.2.2.2.2.2.2.1, S.2.2.2.2.2.2.2.1, S.2.2.2.2.2.2.2.2)
def Bd.w_edges (S : Bd) (v : Int64) : Bd := (S.1, v, S.2.2.1, S.2.2.2.1, S.2.2.2.2.1, S.2.2.2.2.2.1, S.2.2.2.2.2.2.1, S.2.2.2.2.2.2.2.1, S.2.2.2.2.2.2.2.2)
def Bd.w_moveCount (S : Bd) (v : Int32) : Bd := (S.1, S.2.1, v, S.2.2.2.1, S.2.2.2.2.1, S.2.2.2.2.2.1, S.2.2.2.2.2.2.1, S.2.2.2.2.2.2.2.1, S.2.2.2.2.2.2.2.2)
def Bd.w_strategyCount (S : Bd) (v : Int32) : Bd := (S.1, S.2.1, S.2.2.1, v, S.2.2.2.2.1, S.2.2.2.2.2.1, S.2.2.2.2.2.2.1, S.2.2.2.2.2.2.2.1, S.2.2.2.2.2.2.2.2)
def Bd.w_pile (S : Bd) (v : (Nat → Int32)) : Bd := (S.1, S.2.1, S.2.2.1, S.2.2.2.1, v, S.2.2.2.2.2.1, S.2.2.2.2.2.2.1, S.2.2.2.2.2.2.2.1, S.2.2.2.2.2.2.2.2)
def Bd.w_distances (S : Bd) (v : (Nat → Int32)) : Bd := (S.1, S.2.1, S.2.2.1, S.2.2.2.1, S.2.2.2.2.1, v, S.2.2.2.2.2.2.1, S.2.2.2.2.2.2.2.1, S.2.2.2.2.2.2.2.2)
def Bd.w_targets (S : Bd) (v : (Nat → Int32)) : Bd := (S.1, S.2.1, S.2.2.1, S.2.2.2.1, S.2.2.2.2.1, S.2.2.2.2.2.1, v, S.2.2.2.2.2.2.2.1, S.2.2.2.2.2.2.2.2)
def Bd.w_weights (S : Bd) (v : (Nat → Int32)) : Bd := (S.1, S.2.1, S.2.2.1, S.2.2.2.1, S.2.2.2.2.1, S.2.2.2.2.2.1, S.2.2.2.2.2.2.1, v, S.2.2.2.2.2.2.2.2)
def Bd.w_parents (S : Bd) (v : (Nat → Int32)) : Bd := (S.1, S.2.1, S.2.2.1, S.2.2.2.1, S.2.2.2.2.1, S.2.2.2.2.2.1, S.2.2.2.2.2.2.1, S.2.2.2.2.2.2.2.1, v)
def Bd.cells (b : Nat) (S : Bd) : List AC := [.inr (0, [.int S.vertices, .long S.edges, .int S.moveCount, .int S.strategyCount, .ref (b + 1), .ref (b + 2), .ref (b + 3), .ref (b + 4), .ref (b + 5)]), .inl (0, 6, .inl S.pile), .inl (0, 36, .inl S.distances), .inl (0, 6, .inl S.targets), .inl (0, 36, .inl S.weights), .inl (0, 36, .inl S.parents)]
def FP : Type := Int32 × Int32 × Int32 × Int64 × Int32 × Int32 × Int32 × (Nat → Int32) × (Nat → Int32) × (Nat → Int32) × (Nat → Int32) × (Nat → Int32)
def FP.target (S : FP) : Int32 := S.1
def FP.isMade (S : FP) : Int32 := S.2.1
def FP.vertices (S : FP) : Int32 := S.2.2.1
def FP.edges (S : FP) : Int64 := S.2.2.2.1
def FP.leastNumber (S : FP) : Int32 := S.2.2.2.2.1
def FP.worstCount (S : FP) : Int32 := S.2.2.2.2.2.1
def FP.firstWorst (S : FP) : Int32 := S.2.2.2.2.2.2.1
def FP.howMany (S : FP) : (Nat → Int32) := S.2.2.2.2.2.2.2.1
def FP.limits (S : FP) : (Nat → Int32) := S.2.2.2.2.2.2.2.2.1
def FP.shifts (S : FP) : (Nat → Int32) := S.2.2.2.2.2.2.2.2.2.1
def FP.near (S : FP) : (Nat → Int32) := S.2.2.2.2.2.2.2.2.2.2.1
def FP.marks (S : FP) : (Nat → Int32) := S.2.2.2.2.2.2.2.2.2.2.2
def FP.w_target (S : FP) (v : Int32) : FP := (v, S.2.1, S.2.2.1, S.2.2.2.1, S.2.2.2.2.1, S.2.2.2.2.2.1, S.2.2.2.2.2.2.1, S.2.2.2.2.2.2.2.1, S.2.2.2.2.2.2.2.2.1, S.2.2.2.2.2.2.2.2.2.1, S.2.2.2.2.2.2.2.2.2.2.1, S.2.2.2.2.2.2.2.2.2.2.2)
def FP.w_isMade (S : FP) (v : Int32) : FP := (S.1, v, S.2.2.1, S.2.2.2.1, S.2.2.2.2.1, S.2.2.2.2.2.1, S.2.2.2.2.2.2.1, S.2.2.2.2.2.2.2.1, S.2.2.2.2.2.2.2.2.1, S.2.2.2.2.2.2.2.2.2.1, S.2.2.2.2.2.2.2.2.2.2.1, S.2.2.2.2.2.2.2.2.2.2.2)
def FP.w_vertices (S : FP) (v : Int32) : FP := (S.1, S.2.1, v, S.2.2.2.1, S.2.2.2.2.1, S.2.2.2.2.2.1, S.2.2.2.2.2.2.1, S.2.2.2.2.2.2.2.1, S.2.2.2.2.2.2.2.2.1, S.2.2.2.2.2.2.2.2.2.1, S.2.2.2.2.2.2.2.2.2.2.1, S.2.2.2.2.2.2.2.2.2.2.2)
def FP.w_edges (S : FP) (v : Int64) : FP := (S.1, S.2.1, S.2.2.1, v, S.2.2.2.2.1, S.2.2.2.2.2.1, S.2.2.2.2.2.2.1, S.2.2.2.2.2.2.2.1, S.2.2.2.2.2.2.2.2.1, S.2.2.2.2.2.2.2.2.2.1, S.2.2.2.2.2.2.2.2.2.2.1, S.2.2.2.2.2.2.2.2.2.2.2)
def FP.w_leastNumber (S : FP) (v : Int32) : FP := (S.1, S.2.1, S.2.2.1, S.2.2.2.1, v, S.2.2.2.2.2.1, S.2.2.2.2.2.2.1, S.2.2.2.2.2.2.2.1, S.2.2.2.2.2.2.2.2.1, S.2.2.2.2.2.2.2.2.2.1, S.2.2.2.2.2.2.2.2.2.2.1, S.2.2.2.2.2.2.2.2.2.2.2)
def FP.w_worstCount (S : FP) (v : Int32) : FP := (S.1, S.2.1, S.2.2.1, S.2.2.2.1, S.2.2.2.2.1, v, S.2.2.2.2.2.2.1, S.2.2.2.2.2.2.2.1, S.2.2.2.2.2.2.2.2.1, S.2.2.2.2.2.2.2.2.2.1, S.2.2.2.2.2.2.2.2.2.2.1, S.2.2.2.2.2.2.2.2.2.2.2)
def FP.w_firstWorst (S : FP) (v : Int32) : FP := (S.1, S.2.1, S.2.2.1, S.2.2.2.1, S.2.2.2.2.1, S.2.2.2.2.2.1, v, S.2.2.2.2.2.2.2.1, S.2.2.2.2.2.2.2.2.1, S.2.2.2.2.2.2.2.2.2.1, S.2.2.2.2.2.2.2.2.2.2.1, S.2.2.2.2.2.2.2.2.2.2.2)
def FP.w_howMany (S : FP) (v : (Nat → Int32)) : FP := (S.1, S.2.1, S.2.2.1, S.2.2.2.1, S.2.2.2.2.1, S.2.2.2.2.2.1, S.2.2.2.2.2.2.1, v, S.2.2.2.2.2.2.2.2.1, S.2.2.2.2.2.2.2.2.2.1, S.2.2.2.2.2.2.2.2.2.2.1, S.2.2.2.2.2.2.2.2.2.2.2)
def FP.w_limits (S : FP) (v : (Nat → Int32)) : FP := (S.1, S.2.1, S.2.2.1, S.2.2.2.1, S.2.2.2.2.1, S.2.2.2.2.2.1, S.2.2.2.2.2.2.1, S.2.2.2.2.2.2.2.1, v, S.2.2.2.2.2.2.2.2.2.1, S.2.2.2.2.2.2.2.2.2.2.1, S.2.2.2.2.2.2.2.2.2.2.2)
def FP.w_shifts (S : FP) (v : (Nat → Int32)) : FP := (S.1, S.2.1, S.2.2.1, S.2.2.2.1, S.2.2.2.2.1, S.2.2.2.2.2.1, S.2.2.2.2.2.2.1, S.2.2.2.2.2.2.2.1, S.2.2.2.2.2.2.2.2.1, v, S.2.2.2.2.2.2.2.2.2.2.1, S.2.2.2.2.2.2.2.2.2.2.2)
def FP.w_near (S : FP) (v : (Nat → Int32)) : FP := (S.1, S.2.1, S.2.2.1, S.2.2.2.1, S.2.2.2.2.1, S.2.2.2.2.2.1, S.2.2.2.2.2.2.1, S.2.2.2.2.2.2.2.1, S.2.2.2.2.2.2.2.2.1, S.2.2.2.2.2.2.2.2.2.1, v, S.2.2.2.2.2.2.2.2.2.2.2)
def FP.w_marks (S : FP) (v : (Nat → Int32)) : FP := (S.1, S.2.1, S.2.2.1, S.2.2.2.1, S.2.2.2.2.1, S.2.2.2.2.2.1, S.2.2.2.2.2.2.1, S.2.2.2.2.2.2.2.1, S.2.2.2.2.2.2.2.2.1, S.2.2.2.2.2.2.2.2.2.1, S.2.2.2.2.2.2.2.2.2.2.1, v)
def FP.cells (b : Nat) (S : FP) : List AC := [.inr (1, [.int S.target, .int S.isMade, .int S.vertices, .long S.edges, .int S.leastNumber, .int S.worstCount, .int S.firstWorst, .ref (b + 1), .ref (b + 2), .ref (b + 3), .ref (b + 4), .ref (b + 5)]), .inl (0, 100, .inl S.howMany), .inl (0, 6, .inl S.limits), .inl (0, 6, .inl S.shifts), .inl (0, 6, .inl S.near), .inl (0, 1024, .inl S.marks)]
def Ol : Type := Int32 × Int32 × Int64 × Int32 × Int32 × Int32 × (Nat → Int32) × (Nat → Int32) × (Nat → Int32)
def Ol.isMade (S : Ol) : Int32 := S.1
def Ol.vertices (S : Ol) : Int32 := S.2.1
def Ol.edges (S : Ol) : Int64 := S.2.2.1
def Ol.firstPile (S : Ol) : Int32 := S.2.2.2.1
def Ol.pileCount (S : Ol) : Int32 := S.2.2.2.2.1
def Ol.fewestEmpty (S : Ol) : Int32 := S.2.2.2.2.2.1
def Ol.fewestMoves (S : Ol) : (Nat → Int32) := S.2.2.2.2.2.2.1
def Ol.row (S : Ol) : (Nat → Int32) := S.2.2.2.2.2.2.2.1
def Ol.slots (S : Ol) : (Nat → Int32) := S.2.2.2.2.2.2.2.2
def Ol.w_isMade (S : Ol) (v : Int32) : Ol := (v, S.2.1, S.2.2.1, S.2.2.2.1, S.2.2.2.2.1, S.2.2.2.2.2.1, S.2.2.2.2.2.2.1, S.2.2.2.2.2.2.2.1, S.2.2.2.2.2.2.2.2)
def Ol.w_vertices (S : Ol) (v : Int32) : Ol := (S.1, v, S.2.2.1, S.2.2.2.1, S.2.2.2.2.1, S.2.2.2.2.2.1, S.2.2.2.2.2.2.1, S.2.2.2.2.2.2.2.1, S.2.2.2.2.2.2.2.2)
def Ol.w_edges (S : Ol) (v : Int64) : Ol := (S.1, S.2.1, v, S.2.2.2.1, S.2.2.2.2.1, S.2.2.2.2.2.1, S.2.2.2.2.2.2.1, S.2.2.2.2.2.2.2.1, S.2.2.2.2.2.2.2.2)
def Ol.w_firstPile (S : Ol) (v : Int32) : Ol := (S.1, S.2.1, S.2.2.1, v, S.2.2.2.2.1, S.2.2.2.2.2.1, S.2.2.2.2.2.2.1, S.2.2.2.2.2.2.2.1, S.2.2.2.2.2.2.2.2)
def Ol.w_pileCount (S : Ol) (v : Int32) : Ol := (S.1, S.2.1, S.2.2.1, S.2.2.2.1, v, S.2.2.2.2.2.1, S.2.2.2.2.2.2.1, S.2.2.2.2.2.2.2.1, S.2.2.2.2.2.2.2.2)
def Ol.w_fewestEmpty (S : Ol) (v : Int32) : Ol := (S.1, S.2.1, S.2.2.1, S.2.2.2.1, S.2.2.2.2.1, v, S.2.2.2.2.2.2.1, S.2.2.2.2.2.2.2.1, S.2.2.2.2.2.2.2.2)
def Ol.w_fewestMoves (S : Ol) (v : (Nat → Int32)) : Ol := (S.1, S.2.1, S.2.2.1, S.2.2.2.1, S.2.2.2.2.1, S.2.2.2.2.2.1, v, S.2.2.2.2.2.2.2.1, S.2.2.2.2.2.2.2.2)
def Ol.w_row (S : Ol) (v : (Nat → Int32)) : Ol := (S.1, S.2.1, S.2.2.1, S.2.2.2.1, S.2.2.2.2.1, S.2.2.2.2.2.1, S.2.2.2.2.2.2.1, v, S.2.2.2.2.2.2.2.2)
def Ol.w_slots (S : Ol) (v : (Nat → Int32)) : Ol := (S.1, S.2.1, S.2.2.1, S.2.2.2.1, S.2.2.2.2.1, S.2.2.2.2.2.1, S.2.2.2.2.2.2.1, S.2.2.2.2.2.2.2.1, v)
def Ol.cells (b : Nat) (S : Ol) : List AC := [.inr (3, [.int S.isMade, .int S.vertices, .long S.edges, .int S.firstPile, .int S.pileCount, .int S.fewestEmpty, .ref (b + 1), .ref (b + 2), .ref (b + 3)]), .inl (0, 6, .inl S.fewestMoves), .inl (0, 8192, .inl S.row), .inl (0, 16384, .inl S.slots)]
def Tx : Type := (Nat → Int32) × Int32 × Bd × Int32 × Int32 × Int32 × Int32
def Tx.bytes (S : Tx) : (Nat → Int32) := S.1
def Tx.length (S : Tx) : Int32 := S.2.1
def Tx.draft (S : Tx) : Bd := S.2.2.1
def Tx.kind (S : Tx) : Int32 := S.2.2.2.1
def Tx.start (S : Tx) : Int32 := S.2.2.2.2.1
def Tx.stop (S : Tx) : Int32 := S.2.2.2.2.2.1
def Tx.value (S : Tx) : Int32 := S.2.2.2.2.2.2
def Tx.w_bytes (S : Tx) (v : (Nat → Int32)) : Tx := (v, S.2.1, S.2.2.1, S.2.2.2.1, S.2.2.2.2.1, S.2.2.2.2.2.1, S.2.2.2.2.2.2)
def Tx.w_length (S : Tx) (v : Int32) : Tx := (S.1, v, S.2.2.1, S.2.2.2.1, S.2.2.2.2.1, S.2.2.2.2.2.1, S.2.2.2.2.2.2)
def Tx.w_draft (S : Tx) (v : Bd) : Tx := (S.1, S.2.1, v, S.2.2.2.1, S.2.2.2.2.1, S.2.2.2.2.2.1, S.2.2.2.2.2.2)
def Tx.w_kind (S : Tx) (v : Int32) : Tx := (S.1, S.2.1, S.2.2.1, v, S.2.2.2.2.1, S.2.2.2.2.2.1, S.2.2.2.2.2.2)
def Tx.w_start (S : Tx) (v : Int32) : Tx := (S.1, S.2.1, S.2.2.1, S.2.2.2.1, v, S.2.2.2.2.2.1, S.2.2.2.2.2.2)
def Tx.w_stop (S : Tx) (v : Int32) : Tx := (S.1, S.2.1, S.2.2.1, S.2.2.2.1, S.2.2.2.2.1, v, S.2.2.2.2.2.2)
def Tx.w_value (S : Tx) (v : Int32) : Tx := (S.1, S.2.1, S.2.2.1, S.2.2.2.1, S.2.2.2.2.1, S.2.2.2.2.2.1, v)
def Tx.cells (b : Nat) (S : Tx) : List AC := .inr (4, [.ref (b + 1), .int S.length, .ref (b + 2), .int S.kind, .int S.start, .int S.stop, .int S.value]) :: .inl (0, 400, .inl S.bytes) :: Bd.cells (b + 2) S.draft
theorem Bd.s_vertices {b : Nat} {S S2 : Bd} {v : Int32} {fs : List Value} (hc : (Bd.cells b S)[0]? = some (.inr (0, fs))) (h : some (S.w_vertices v) = some S2) : (Bd.cells b S).set 0 (.inr (0, fs.set 0 (.int v))) = Bd.cells b S2 := by
  cases h
  cases hc
  delta Bd.cells Bd.w_vertices Bd.vertices Bd.edges Bd.moveCount Bd.strategyCount Bd.pile Bd.distances Bd.targets Bd.weights Bd.parents
  rfl
theorem Bd.s_edges {b : Nat} {S S2 : Bd} {v : Int64} {fs : List Value} (hc : (Bd.cells b S)[0]? = some (.inr (0, fs))) (h : some (S.w_edges v) = some S2) : (Bd.cells b S).set 0 (.inr (0, fs.set 1 (.long v))) = Bd.cells b S2 := by
  cases h
  cases hc
  delta Bd.cells Bd.w_edges Bd.vertices Bd.edges Bd.moveCount Bd.strategyCount Bd.pile Bd.distances Bd.targets Bd.weights Bd.parents
  rfl
theorem Bd.s_moveCount {b : Nat} {S S2 : Bd} {v : Int32} {fs : List Value} (hc : (Bd.cells b S)[0]? = some (.inr (0, fs))) (h : some (S.w_moveCount v) = some S2) : (Bd.cells b S).set 0 (.inr (0, fs.set 2 (.int v))) = Bd.cells b S2 := by
  cases h
  cases hc
  delta Bd.cells Bd.w_moveCount Bd.vertices Bd.edges Bd.moveCount Bd.strategyCount Bd.pile Bd.distances Bd.targets Bd.weights Bd.parents
  rfl
theorem Bd.s_strategyCount {b : Nat} {S S2 : Bd} {v : Int32} {fs : List Value} (hc : (Bd.cells b S)[0]? = some (.inr (0, fs))) (h : some (S.w_strategyCount v) = some S2) : (Bd.cells b S).set 0 (.inr (0, fs.set 3 (.int v))) = Bd.cells b S2 := by
  cases h
  cases hc
  delta Bd.cells Bd.w_strategyCount Bd.vertices Bd.edges Bd.moveCount Bd.strategyCount Bd.pile Bd.distances Bd.targets Bd.weights Bd.parents
  rfl
theorem Bd.s_pile {b : Nat} {S S2 : Bd} {v : Nat → Int32} (h : some (S.w_pile v) = some S2) : (Bd.cells b S).set 1 (.inl (0, 6, .inl v)) = Bd.cells b S2 := by
  cases h
  delta Bd.cells Bd.w_pile Bd.vertices Bd.edges Bd.moveCount Bd.strategyCount Bd.pile Bd.distances Bd.targets Bd.weights Bd.parents
  rfl
theorem Bd.s_distances {b : Nat} {S S2 : Bd} {v : Nat → Int32} (h : some (S.w_distances v) = some S2) : (Bd.cells b S).set 2 (.inl (0, 36, .inl v)) = Bd.cells b S2 := by
  cases h
  delta Bd.cells Bd.w_distances Bd.vertices Bd.edges Bd.moveCount Bd.strategyCount Bd.pile Bd.distances Bd.targets Bd.weights Bd.parents
  rfl
theorem Bd.s_targets {b : Nat} {S S2 : Bd} {v : Nat → Int32} (h : some (S.w_targets v) = some S2) : (Bd.cells b S).set 3 (.inl (0, 6, .inl v)) = Bd.cells b S2 := by
  cases h
  delta Bd.cells Bd.w_targets Bd.vertices Bd.edges Bd.moveCount Bd.strategyCount Bd.pile Bd.distances Bd.targets Bd.weights Bd.parents
  rfl
theorem Bd.s_weights {b : Nat} {S S2 : Bd} {v : Nat → Int32} (h : some (S.w_weights v) = some S2) : (Bd.cells b S).set 4 (.inl (0, 36, .inl v)) = Bd.cells b S2 := by
  cases h
  delta Bd.cells Bd.w_weights Bd.vertices Bd.edges Bd.moveCount Bd.strategyCount Bd.pile Bd.distances Bd.targets Bd.weights Bd.parents
  rfl
theorem Bd.s_parents {b : Nat} {S S2 : Bd} {v : Nat → Int32} (h : some (S.w_parents v) = some S2) : (Bd.cells b S).set 5 (.inl (0, 36, .inl v)) = Bd.cells b S2 := by
  cases h
  delta Bd.cells Bd.w_parents Bd.vertices Bd.edges Bd.moveCount Bd.strategyCount Bd.pile Bd.distances Bd.targets Bd.weights Bd.parents
  rfl
theorem FP.s_target {b : Nat} {S S2 : FP} {v : Int32} {fs : List Value} (hc : (FP.cells b S)[0]? = some (.inr (1, fs))) (h : some (S.w_target v) = some S2) : (FP.cells b S).set 0 (.inr (1, fs.set 0 (.int v))) = FP.cells b S2 := by
  cases h
  cases hc
  delta FP.cells FP.w_target FP.target FP.isMade FP.vertices FP.edges FP.leastNumber FP.worstCount FP.firstWorst FP.howMany FP.limits FP.shifts FP.near FP.marks
  rfl
theorem FP.s_isMade {b : Nat} {S S2 : FP} {v : Int32} {fs : List Value} (hc : (FP.cells b S)[0]? = some (.inr (1, fs))) (h : some (S.w_isMade v) = some S2) : (FP.cells b S).set 0 (.inr (1, fs.set 1 (.int v))) = FP.cells b S2 := by
  cases h
  cases hc
  delta FP.cells FP.w_isMade FP.target FP.isMade FP.vertices FP.edges FP.leastNumber FP.worstCount FP.firstWorst FP.howMany FP.limits FP.shifts FP.near FP.marks
  rfl
theorem FP.s_vertices {b : Nat} {S S2 : FP} {v : Int32} {fs : List Value} (hc : (FP.cells b S)[0]? = some (.inr (1, fs))) (h : some (S.w_vertices v) = some S2) : (FP.cells b S).set 0 (.inr (1, fs.set 2 (.int v))) = FP.cells b S2 := by
  cases h
  cases hc
  delta FP.cells FP.w_vertices FP.target FP.isMade FP.vertices FP.edges FP.leastNumber FP.worstCount FP.firstWorst FP.howMany FP.limits FP.shifts FP.near FP.marks
  rfl
theorem FP.s_edges {b : Nat} {S S2 : FP} {v : Int64} {fs : List Value} (hc : (FP.cells b S)[0]? = some (.inr (1, fs))) (h : some (S.w_edges v) = some S2) : (FP.cells b S).set 0 (.inr (1, fs.set 3 (.long v))) = FP.cells b S2 := by
  cases h
  cases hc
  delta FP.cells FP.w_edges FP.target FP.isMade FP.vertices FP.edges FP.leastNumber FP.worstCount FP.firstWorst FP.howMany FP.limits FP.shifts FP.near FP.marks
  rfl
theorem FP.s_leastNumber {b : Nat} {S S2 : FP} {v : Int32} {fs : List Value} (hc : (FP.cells b S)[0]? = some (.inr (1, fs))) (h : some (S.w_leastNumber v) = some S2) : (FP.cells b S).set 0 (.inr (1, fs.set 4 (.int v))) = FP.cells b S2 := by
  cases h
  cases hc
  delta FP.cells FP.w_leastNumber FP.target FP.isMade FP.vertices FP.edges FP.leastNumber FP.worstCount FP.firstWorst FP.howMany FP.limits FP.shifts FP.near FP.marks
  rfl
theorem FP.s_worstCount {b : Nat} {S S2 : FP} {v : Int32} {fs : List Value} (hc : (FP.cells b S)[0]? = some (.inr (1, fs))) (h : some (S.w_worstCount v) = some S2) : (FP.cells b S).set 0 (.inr (1, fs.set 5 (.int v))) = FP.cells b S2 := by
  cases h
  cases hc
  delta FP.cells FP.w_worstCount FP.target FP.isMade FP.vertices FP.edges FP.leastNumber FP.worstCount FP.firstWorst FP.howMany FP.limits FP.shifts FP.near FP.marks
  rfl
theorem FP.s_firstWorst {b : Nat} {S S2 : FP} {v : Int32} {fs : List Value} (hc : (FP.cells b S)[0]? = some (.inr (1, fs))) (h : some (S.w_firstWorst v) = some S2) : (FP.cells b S).set 0 (.inr (1, fs.set 6 (.int v))) = FP.cells b S2 := by
  cases h
  cases hc
  delta FP.cells FP.w_firstWorst FP.target FP.isMade FP.vertices FP.edges FP.leastNumber FP.worstCount FP.firstWorst FP.howMany FP.limits FP.shifts FP.near FP.marks
  rfl
theorem FP.s_howMany {b : Nat} {S S2 : FP} {v : Nat → Int32} (h : some (S.w_howMany v) = some S2) : (FP.cells b S).set 1 (.inl (0, 100, .inl v)) = FP.cells b S2 := by
  cases h
  delta FP.cells FP.w_howMany FP.target FP.isMade FP.vertices FP.edges FP.leastNumber FP.worstCount FP.firstWorst FP.howMany FP.limits FP.shifts FP.near FP.marks
  rfl
theorem FP.s_limits {b : Nat} {S S2 : FP} {v : Nat → Int32} (h : some (S.w_limits v) = some S2) : (FP.cells b S).set 2 (.inl (0, 6, .inl v)) = FP.cells b S2 := by
  cases h
  delta FP.cells FP.w_limits FP.target FP.isMade FP.vertices FP.edges FP.leastNumber FP.worstCount FP.firstWorst FP.howMany FP.limits FP.shifts FP.near FP.marks
  rfl
theorem FP.s_shifts {b : Nat} {S S2 : FP} {v : Nat → Int32} (h : some (S.w_shifts v) = some S2) : (FP.cells b S).set 3 (.inl (0, 6, .inl v)) = FP.cells b S2 := by
  cases h
  delta FP.cells FP.w_shifts FP.target FP.isMade FP.vertices FP.edges FP.leastNumber FP.worstCount FP.firstWorst FP.howMany FP.limits FP.shifts FP.near FP.marks
  rfl
theorem FP.s_near {b : Nat} {S S2 : FP} {v : Nat → Int32} (h : some (S.w_near v) = some S2) : (FP.cells b S).set 4 (.inl (0, 6, .inl v)) = FP.cells b S2 := by
  cases h
  delta FP.cells FP.w_near FP.target FP.isMade FP.vertices FP.edges FP.leastNumber FP.worstCount FP.firstWorst FP.howMany FP.limits FP.shifts FP.near FP.marks
  rfl
theorem FP.s_marks {b : Nat} {S S2 : FP} {v : Nat → Int32} (h : some (S.w_marks v) = some S2) : (FP.cells b S).set 5 (.inl (0, 1024, .inl v)) = FP.cells b S2 := by
  cases h
  delta FP.cells FP.w_marks FP.target FP.isMade FP.vertices FP.edges FP.leastNumber FP.worstCount FP.firstWorst FP.howMany FP.limits FP.shifts FP.near FP.marks
  rfl
theorem Ol.s_isMade {b : Nat} {S S2 : Ol} {v : Int32} {fs : List Value} (hc : (Ol.cells b S)[0]? = some (.inr (3, fs))) (h : some (S.w_isMade v) = some S2) : (Ol.cells b S).set 0 (.inr (3, fs.set 0 (.int v))) = Ol.cells b S2 := by
  cases h
  cases hc
  delta Ol.cells Ol.w_isMade Ol.isMade Ol.vertices Ol.edges Ol.firstPile Ol.pileCount Ol.fewestEmpty Ol.fewestMoves Ol.row Ol.slots
  rfl
theorem Ol.s_vertices {b : Nat} {S S2 : Ol} {v : Int32} {fs : List Value} (hc : (Ol.cells b S)[0]? = some (.inr (3, fs))) (h : some (S.w_vertices v) = some S2) : (Ol.cells b S).set 0 (.inr (3, fs.set 1 (.int v))) = Ol.cells b S2 := by
  cases h
  cases hc
  delta Ol.cells Ol.w_vertices Ol.isMade Ol.vertices Ol.edges Ol.firstPile Ol.pileCount Ol.fewestEmpty Ol.fewestMoves Ol.row Ol.slots
  rfl
theorem Ol.s_edges {b : Nat} {S S2 : Ol} {v : Int64} {fs : List Value} (hc : (Ol.cells b S)[0]? = some (.inr (3, fs))) (h : some (S.w_edges v) = some S2) : (Ol.cells b S).set 0 (.inr (3, fs.set 2 (.long v))) = Ol.cells b S2 := by
  cases h
  cases hc
  delta Ol.cells Ol.w_edges Ol.isMade Ol.vertices Ol.edges Ol.firstPile Ol.pileCount Ol.fewestEmpty Ol.fewestMoves Ol.row Ol.slots
  rfl
theorem Ol.s_firstPile {b : Nat} {S S2 : Ol} {v : Int32} {fs : List Value} (hc : (Ol.cells b S)[0]? = some (.inr (3, fs))) (h : some (S.w_firstPile v) = some S2) : (Ol.cells b S).set 0 (.inr (3, fs.set 3 (.int v))) = Ol.cells b S2 := by
  cases h
  cases hc
  delta Ol.cells Ol.w_firstPile Ol.isMade Ol.vertices Ol.edges Ol.firstPile Ol.pileCount Ol.fewestEmpty Ol.fewestMoves Ol.row Ol.slots
  rfl
theorem Ol.s_pileCount {b : Nat} {S S2 : Ol} {v : Int32} {fs : List Value} (hc : (Ol.cells b S)[0]? = some (.inr (3, fs))) (h : some (S.w_pileCount v) = some S2) : (Ol.cells b S).set 0 (.inr (3, fs.set 4 (.int v))) = Ol.cells b S2 := by
  cases h
  cases hc
  delta Ol.cells Ol.w_pileCount Ol.isMade Ol.vertices Ol.edges Ol.firstPile Ol.pileCount Ol.fewestEmpty Ol.fewestMoves Ol.row Ol.slots
  rfl
theorem Ol.s_fewestEmpty {b : Nat} {S S2 : Ol} {v : Int32} {fs : List Value} (hc : (Ol.cells b S)[0]? = some (.inr (3, fs))) (h : some (S.w_fewestEmpty v) = some S2) : (Ol.cells b S).set 0 (.inr (3, fs.set 5 (.int v))) = Ol.cells b S2 := by
  cases h
  cases hc
  delta Ol.cells Ol.w_fewestEmpty Ol.isMade Ol.vertices Ol.edges Ol.firstPile Ol.pileCount Ol.fewestEmpty Ol.fewestMoves Ol.row Ol.slots
  rfl
theorem Ol.s_fewestMoves {b : Nat} {S S2 : Ol} {v : Nat → Int32} (h : some (S.w_fewestMoves v) = some S2) : (Ol.cells b S).set 1 (.inl (0, 6, .inl v)) = Ol.cells b S2 := by
  cases h
  delta Ol.cells Ol.w_fewestMoves Ol.isMade Ol.vertices Ol.edges Ol.firstPile Ol.pileCount Ol.fewestEmpty Ol.fewestMoves Ol.row Ol.slots
  rfl
theorem Ol.s_row {b : Nat} {S S2 : Ol} {v : Nat → Int32} (h : some (S.w_row v) = some S2) : (Ol.cells b S).set 2 (.inl (0, 8192, .inl v)) = Ol.cells b S2 := by
  cases h
  delta Ol.cells Ol.w_row Ol.isMade Ol.vertices Ol.edges Ol.firstPile Ol.pileCount Ol.fewestEmpty Ol.fewestMoves Ol.row Ol.slots
  rfl
theorem Ol.s_slots {b : Nat} {S S2 : Ol} {v : Nat → Int32} (h : some (S.w_slots v) = some S2) : (Ol.cells b S).set 3 (.inl (0, 16384, .inl v)) = Ol.cells b S2 := by
  cases h
  delta Ol.cells Ol.w_slots Ol.isMade Ol.vertices Ol.edges Ol.firstPile Ol.pileCount Ol.fewestEmpty Ol.fewestMoves Ol.row Ol.slots
  rfl
abbrev imx (x y : Int32) : Int32 := if x < y then y else x
abbrev imn (x y : Int32) : Int32 := if y < x then y else x
abbrev ushr (x y : Int32) : Int32 := (x.toUInt32 >>> (y.toUInt32 &&& Int32.toUInt32 31)).toInt32
abbrev ulshr (x : Int64) (y : Int32) : Int64 := (x.toUInt64 >>> (y.toInt64.toUInt64 &&& Int64.toUInt64 63)).toInt64
theorem am_recv_v {q a ci r1 : Nat} {C : String} {as : List Value} {h : AHp} {fs : List Value} (ha : a < am_SB) (hc : h[a]? = some (.inr (ci, fs))) (hC : am_cn ci = C) : am_recv (.invokevirtual q) r1 C (.ref a :: as) h = true := by
  delta am_recv
  dsimp only
  rw [if_pos ha, hc]
  exact decide_eq_true (Or.inl hC)
theorem hp_rg {h : AHp} {b N : Nat} {L : List AC} (hb : b + N ≤ am_SB) (hh : b + N ≤ h.length) (hl : L.length = N) : Rg (hput h b L) b L := by
  subst hl
  refine ⟨hb, by rw [hput_len hh]; exact hh, fun i hi => ?_⟩
  rw [hput_get hh, if_pos (by omega)]
  congr 1; omega
/-- a call that returns and makes nothing new -/
theorem x_c0 {d : Nat} {M : AMe} {scr : ASc} {res : ARe} {pc : Nat} {ls : ALs} {st : List Value} {h : AHp} {c n : Nat} {d2 p mi np : Nat} {i : Instr} {Y : AMe} {as rest : List Value} {v : Option Value} {h2 : AHp} (hr : Rn scr d2 mi as h (.inl v, h2, 0, 0)) (hE : am_find M.2.2.2.2.2.2 pc = some (p, i, mi, np)) (hk : (am_kind i mi, am_nx i) = (2, 3)) (ha : am_args np st = some (as, rest)) (hp : am_prog mi = some Y) (hrv : am_recv i mi Y.1.cls as h = true) (hd : d2 ≤ d)
    (k : Ex d M scr (pc + 3, ls, v.toList ++ rest, h2, c, n) res) : Ex d M scr (pc, ls, st, h, c, n) res := by
  have h1 : am_kind i mi = 2 := congrArg Prod.fst hk
  have h2 : am_nx i = 3 := congrArg Prod.snd hk
  refine x_call (E := (p, i, mi, np)) hr hd hE h1 ha hp hrv ?_
  show Ex d M scr (pc + am_nx i, _) res
  rw [h2]
  exact k
theorem am_ret_i {v : Int32} : am_ret (some .int) .ireturn [.int v] = some (some (.int v)) := if_pos rfl
theorem am_ret_z {v : Int32} (h : v = 0 ∨ v = 1) : am_ret (some .boolean) .ireturn [.int v] = some (some (.int v)) := by
  rcases h with rfl | rfl <;> rfl
theorem itn_some {α : Type} {P : Prop} [Decidable P] {u : Option α} {o : α} (hr : (if P then u else none) = some o) : P ∧ u = some o := by
  by_cases hP : P
  · rw [if_pos hP] at hr; exact ⟨hP, hr⟩
  · rw [if_neg hP] at hr; cases hr
/-- one array of ints -/
def Ar.cells (N : Nat) (f : Nat → Int32) : List AC := [.inl (0, N, .inl f)]
theorem ar_len {H : AHp} {a : Nat} {e : AC} (hc : H[a]? = some e) : a + 1 ≤ H.length := by
  rcases Nat.lt_or_ge a H.length with h1 | h1
  · exact h1
  · rw [List.getElem?_eq_none h1] at hc; cases hc
theorem ar_rg {H : AHp} {a N : Nat} {f : Nat → Int32} (ha : a < am_SB) (hc : H[a]? = some (.inl (0, N, .inl f))) : Rg H a (Ar.cells N f) := by
  refine ⟨ha, ar_len hc, fun i hi => ?_⟩
  obtain rfl : i = 0 := by change i < 1 at hi; omega
  exact hc
theorem ar_call {scr : ASc} {H H' : AHp} {D mi a N : Nat} {f f2 : Nat → Int32} {as : List Value} {v : Option Value} (hr : a + 1 ≤ am_SB → a + 1 ≤ H.length → Rn scr D mi as (hput H a (Ar.cells N f)) (.inl v, hput H a (Ar.cells N f2), 0, 0)) (ha : a < am_SB) (hc : H[a]? = some (.inl (0, N, .inl f))) (hs : H.set a (.inl (0, N, .inl f2)) = H') : Rn scr D mi as H (.inl v, H', 0, 0) := by
  have h1 := hr ha (ar_len hc)
  have h2 : hput H a (Ar.cells N f) = H := (ar_rg ha hc).back
  have h3 : (hput H a (Ar.cells N f)).set (a + 0) (.inl (0, N, .inl f2)) = hput H a (Ar.cells N f2) := hp_set (N := 1) (ar_len hc) rfl (by decide) rfl
  rw [h2] at h1 h3
  rw [← h3] at h1
  rw [← hs]
  exact h1
theorem Ar.s_ {N : Nat} {f f2 : Nat → Int32} (h : some f = some f2) {g : Nat → Int32} : (Ar.cells N g).set 0 (.inl (0, N, .inl f)) = Ar.cells N f2 := by
  cases h
  rfl
theorem tsw_out {x : Int32} (n : Nat) (hn : n < 1000) (h : ∀ k : Nat, k ≤ n → ¬ x = Int32.ofNat k) : x.toInt < 0 ∨ (n : Int) < x.toInt := by
  rcases Int.lt_or_le x.toInt 0 with h1 | h1
  · exact .inl h1
  · refine .inr ?_
    rcases Int.lt_or_le (n : Int) x.toInt with h2 | h2
    · exact h2
    · exfalso
      obtain ⟨k, hk⟩ := Int.eq_ofNat_of_zero_le h1
      refine h k (by omega) ?_
      apply Int32.toInt_inj.mp
      rw [hk, Int32.toInt_ofNat_of_lt (by omega)]
section TSW
variable {d : Nat} {M : AMe} {scr : ASc} {res : ARe} {pc r1 r2 : Nat} {ls : ALs} {st : List Value} {h : AHp} {c n : Nat} {x y : Int32}
theorem x_tswk {p t : Nat} {dflt lo hi : Int} {offs : Array Int} (hE : am_find M.2.2.2.2.2.2 pc = some (p, .tableswitch dflt lo hi offs, r1, r2)) (hp : p = pc) (hx : x = y) (hs : am_tsw p dflt lo hi offs ls (.int y :: st) h = some (t, ls, st, h, 0, 0)) (k : Ex d M scr (t, ls, st, h, c, n) res) : Ex d M scr (pc, ls, .int x :: st, h, c, n) res := by
  subst hp hx
  exact x_s hE rfl (S := (t, ls, st, h, 0, 0)) hs k
theorem x_tswd {p t : Nat} {dflt lo hi : Int} {offs : Array Int} (hE : am_find M.2.2.2.2.2.2 pc = some (p, .tableswitch dflt lo hi offs, r1, r2)) (hp : p = pc) (hx : x.toInt < lo ∨ hi < x.toInt) (ht : 0 ≤ (p : Int) + dflt ∧ ((p : Int) + dflt).toNat = t) (k : Ex d M scr (t, ls, st, h, c, n) res) : Ex d M scr (pc, ls, .int x :: st, h, c, n) res := by
  obtain ⟨h0, rfl⟩ := ht
  subst hp
  refine x_s hE rfl (S := (((p : Int) + dflt).toNat, ls, st, h, 0, 0)) ?_ k
  delta am_step am_tsw
  dsimp only
  rw [if_pos hx, if_pos h0]
end TSW
