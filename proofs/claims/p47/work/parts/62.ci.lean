/-! ===== THE CLASS'S CALLS, over positions ===== -/
def CI (Q : Ps) (H : List Ps) (S : Option Ps) (r : Int32) (W : Wd) : Prop := BQ Q W.board ∧ VQ Q ∧ (match S with | none => W.pp.hasSaved = 0 | some R => W.pp.hasSaved = 1 ∧ BQ R W.saved ∧ VQ R) ∧ W.pp.refusal = r ∧ HH W.hist W.bd H ∧ FC W
/-- what a call of the class comes to -/
def Ou (W : Wd) (F : Option ((Int32 ⊕ Nat) × Wd)) (a : Int32 ⊕ Nat) (Q : Ps) (H : List Ps) (S : Option Ps) (r : Int32) : Prop := ∃ W', F = some (a, W') ∧ CI Q H S r W' ∧ W'.cl = W.cl ∧ W'.inp = W.inp ∧ Co 13 1300 W W'
theorem HH.mono {h h' : Hs} {bd bd' : Nat → Option Bd} {l : List Ps} (k : HH h bd l) (h1 : h' = h) (h2 : ∀ b B, bd b = some B → bd' b = some B) : HH h' bd' l := by
  subst h1
  obtain ⟨o, a1, a2, a3, a4, a5, a6, a7⟩ := k
  refine ⟨o, a1, a2, a3, a4, fun i a hi ha => ?_, a6, fun i Q hi => ?_⟩
  · obtain ⟨B, hB⟩ := a5 i a hi ha
    exact ⟨B, h2 a B hB⟩
  · obtain ⟨v, a, B, b1, b2, b3⟩ := a7 i Q hi
    exact ⟨v, a, B, b1, h2 a B b2, b3⟩
theorem FC.dy {W X : Wd} (h : FC W) (h1 : X.fps = W.fps) (h2 : X.dyn = W.dyn) : FC X := fun t a ht ha => by
  rw [h1] at ha
  obtain ⟨P, p1, p2⟩ := h t a ht ha
  exact ⟨P, by rw [fp_dyn h2]; exact p1, p2⟩
theorem CI.cong {Q : Ps} {H : List Ps} {S : Option Ps} {r : Int32} {W X : Wd} (h : CI Q H S r W) (h1 : X.board = W.board) (h2 : X.pp = W.pp) (h3 : X.saved = W.saved) (h4 : X.hist = W.hist) (h5 : X.fps = W.fps) (h6 : X.dyn = W.dyn) : CI Q H S r X := by
  obtain ⟨a1, a2, a3, a4, a5, a6⟩ := h
  refine ⟨by rw [h1]; exact a1, a2, by rw [h2, h3]; exact a3, by rw [h2]; exact a4, a5.mono h4 fun b B q => by rw [bd_dyn h6]; exact q, a6.dy h5 h6⟩
section CALLS
variable {Q : Ps} {H : List Ps} {S : Option Ps} {r : Int32} {W : Wd}
/-- refused by an exception alone -/
theorem CI.thr {k : Nat} (h : CI Q H S r W) : Ou W (some (.inr k, W.thr)) (.inr k) Q H S r :=
  ⟨W.thr, rfl, h.cong rfl rfl rfl rfl rfl rfl, cl_dyn rfl, rfl, (Co.thr W).up (by decide) (by decide)⟩
/-- refused with a reason -/
theorem CI.ref (h : CI Q H S r W) (k : Int32) : Ou W (some (.inr 0, (W.w_pp (W.pp.w_refusal k)).thr)) (.inr 0) Q H S k := by
  obtain ⟨a1, a2, a3, a4, a5, a6⟩ := h
  refine ⟨_, rfl, ⟨a1, a2, ?_, rfl, a5, a6⟩, cl_dyn rfl, rfl, ?_⟩
  · cases S <;> exact a3
  · exact (Co.thr _).up (by decide) (by decide)
/-- kept, then a board of the new position -/
theorem CI.kept (h : CI Q H S r W) (hd : W.top < 900000) : ∃ V, F_50 W = some V ∧ V.board = W.board ∧ V.inp = W.inp ∧ V.cl = W.cl ∧ Co 6 129 W V ∧ (∀ b, V.fp b = W.fp b) ∧ ∀ (D : Bd) (Q' : Ps), BQ Q' D → VQ Q' → CI Q' (hpush H Q) S r (V.w_board D) := by
  obtain ⟨a1, a2, a3, a4, a5, a6⟩ := h
  obtain ⟨V, e, k, hh⟩ := keep a5 a2 a1 hd
  have fc := k.fc a6
  obtain ⟨k1, k2, k3, k4, k5, k6, k7, k8⟩ := k
  refine ⟨V, e, k2, k4, k6, k8, k7, fun D Q' hB hV => ⟨hB, hV, ?_, ?_, ?_, fc⟩⟩
  · cases S with
    | none => show V.pp.hasSaved = 0; rw [k1]; exact a3
    | some R => show V.pp.hasSaved = 1 ∧ BQ R V.saved ∧ VQ R; rw [k1, k3]; exact a3
  · show V.pp.refusal = r
    rw [k1]; exact a4
  · exact hh
theorem Ou.mk {V : Wd} {D : Bd} {a : Int32} {Q' : Ps} {F : Option ((Int32 ⊕ Nat) × Wd)} (h1 : F = some (.inl a, V.w_board D)) (h2 : CI Q' H S r (V.w_board D)) (h3 : V.cl = W.cl) (h4 : V.inp = W.inp) (h5 : Co 6 129 W V) : Ou W F (.inl a) Q' H S r :=
  ⟨V.w_board D, h1, h2, (cl_dyn rfl).trans h3, h4, by obtain ⟨c1, c2, c3⟩ := h5; exact ⟨Nat.le_trans c1 (by omega), Nat.le_trans c2 (by omega), c3⟩⟩
theorem q31 (h : CI Q H S r W) : ∀ v, v < 6 → Q.pl v < 2 ^ 31 := fun v hv => by have := h.2.1.2.2.2 v hv; omega
/-! edges -/
def Ps.wE (Q : Ps) (E : Nat) : Ps := mP Q.n E Q.pl Q.mc Q.sc Q.tg Q.wt Q.pr
theorem BQ.edge {E' : Nat} {B D : Bd} (h : BQ Q B) (h1 : CB Q.n E' D) (h2 : D.pile = B.pile) (h3 : D.moveCount = B.moveCount) (h4 : D.strategyCount = B.strategyCount) (h5 : D.targets = B.targets) (h6 : D.weights = B.weights) (h7 : D.parents = B.parents) (h8 : CD Q.n E' D) : BQ (Q.wE E') D := by
  obtain ⟨a1, a2, a3, a4, a5⟩ := h
  exact ⟨h1, fun v hv => by rw [h2]; exact a2 v hv, ⟨h4.trans a3.1, fun k hk => by rw [h5, h6, h7]; exact a3.2 k hk⟩, h8, h3.trans a5⟩
theorem cIndex2 (h : CI Q H S r W) {x z : Int32} (hv : (isv Q.n x && isv Q.n z) = false) : Ou W (F_84 W x z) (.inr 2) Q H S r ∧ Ou W (F_85 W x z) (.inr 2) Q H S r := by
  have hn := h.2.1.1.2.1
  have e := c125f h.1.1 (show Q.n < 2 ^ 31 by omega) hv
  constructor
  · have : F_84 W x z = some (.inr 2, W.thr) := by unfold F_84; rw [e]; rfl
    rw [this]; exact h.thr
  · have : F_85 W x z = some (.inr 2, W.thr) := by unfold F_85; rw [e]; rfl
    rw [this]; exact h.thr
theorem cSame (h : CI Q H S r W) {u : Nat} (hu : u < Q.n) : Ou W (F_84 W (nI u) (nI u)) (.inr 1) Q H S r ∧ Ou W (F_85 W (nI u) (nI u)) (.inr 1) Q H S r := by
  have hn := h.2.1.1.2.1
  have e := c125e h.1.1 (show Q.n < 2 ^ 31 by omega) hu
  constructor
  · have : F_84 W (nI u) (nI u) = some (.inr 1, W.thr) := by unfold F_84; rw [e]; rfl
    rw [this]; exact h.thr
  · have : F_85 W (nI u) (nI u) = some (.inr 1, W.thr) := by unfold F_85; rw [e]; rfl
    rw [this]; exact h.thr
theorem cAdd1 (h : CI Q H S r W) {u v : Nat} (hu : u < Q.n) (hv : v < Q.n) (hne : ¬ u = v) (ha : ad Q.E u v = true) : Ou W (F_84 W (nI u) (nI v)) (.inr 0) Q H S 1 := by
  have hn := h.2.1.1.2.1
  have hne' : ¬ nI u = nI v := by rw [nI_eq (by omega) (by omega)]; exact hne
  have e : F_84 W (nI u) (nI v) = some (.inr 0, (W.w_pp (W.pp.w_refusal 1)).thr) := by
    unfold F_84
    rw [c125t h.1.1 (by omega) hu hv hne', Option.bind_some]
    dsimp only
    rw [xq_l, c6 h.1.1 h.2.1.1.E_lt (by omega) (by omega), ha, Option.bind_some, if_neg (by decide), refuse]
    rfl
  rw [e]; exact h.ref 1
theorem cAdd (h : CI Q H S r W) (hd : W.top < 900000) {u v : Nat} (hu : u < Q.n) (hv : v < Q.n) (hne : ¬ u = v) (ha : ad Q.E u v = false) : Ou W (F_84 W (nI u) (nI v)) (.inl (nI (ec Q.n (ae Q.E u v)))) (Q.wE (ae Q.E u v)) (hpush H Q) S r := by
  obtain ⟨hG, hC, hO, h9⟩ := id h.2.1
  have hn := hG.2.1
  have hne' : ¬ nI u = nI v := by rw [nI_eq (by omega) (by omega)]; exact hne
  obtain ⟨V, k1, k2, k3, k4, k5, k6, k7⟩ := h.kept hd
  have vB : CB Q.n Q.E V.board := by rw [k2]; exact h.1.1
  obtain ⟨B', b1, b2, b3, b4, b5, b6, b7, b8⟩ := c4 vB (u := u) (v := v) (by omega) (by omega)
  have hG' := hG.ae hu hv hne
  have hC' := hC.ae hG hu hv hne
  obtain ⟨f, f1, f2⟩ := c13 b2 hG' hC'
  obtain ⟨D, hD, d1, d2, d3, d4, d5, d6, d7, d8, d9⟩ := bd_dist B' f
  rw [hD] at f1 f2
  have cD : CB Q.n (ae Q.E u v) D := ⟨d1.trans b2.1, d2.trans b2.2⟩
  refine Ou.mk (V := V) (D := D) ?_ (k7 D _ (h.1.edge cD (d5.trans (b3.trans (by rw [k2]))) (d3.trans (b4.trans (by rw [k2]))) (d4.trans (b5.trans (by rw [k2]))) (d6.trans (b6.trans (by rw [k2]))) (d7.trans (b7.trans (by rw [k2]))) (d8.trans (b8.trans (by rw [k2]))) f2) ⟨hG', hC', hO, h9⟩) k4 k3 k5
  unfold F_84
  rw [c125t h.1.1 (by omega) hu hv hne', Option.bind_some]
  dsimp only
  rw [xq_l, c6 h.1.1 hG.E_lt (by omega) (by omega), ha, Option.bind_some, if_pos (by decide)]
  unfold J_84_0_j23
  rw [k1, Option.bind_some, b1, Option.bind_some, Option.bind_some]
  rw [show (V.w_board B').board = B' from rfl, f1, Option.bind_some, Option.bind_some]
  rw [show ((V.w_board B').w_board D) = V.w_board D from rfl, show (V.w_board D).board = D from rfl, c7 cD hG']
  rfl
theorem cRem0 (h : CI Q H S r W) {u v : Nat} (hu : u < Q.n) (hv : v < Q.n) (hne : ¬ u = v) : F_85 W (nI u) (nI v) = (if ¬ bI (ad Q.E u v) = 0 then J_85_0_j23 W (nI u) (nI v) else (F_128 W 2).bind fun (r30, B31) => xq r30 (fun X32 => some (.inr X32, B31)) fun u33 => J_85_0_j23 B31 (nI u) (nI v)) := by
  have hn := h.2.1.1.2.1
  have hne' : ¬ nI u = nI v := by rw [nI_eq (by omega) (by omega)]; exact hne
  unfold F_85
  rw [c125t h.1.1 (by omega) hu hv hne', Option.bind_some]
  dsimp only
  rw [xq_l, c6 h.1.1 h.2.1.1.E_lt (by omega) (by omega), Option.bind_some]
theorem cRem2 (h : CI Q H S r W) {u v : Nat} (hu : u < Q.n) (hv : v < Q.n) (hne : ¬ u = v) (ha : ad Q.E u v = false) : Ou W (F_85 W (nI u) (nI v)) (.inr 0) Q H S 2 := by
  have e := cRem0 h hu hv hne
  rw [ha, if_neg (by decide), refuse] at e
  rw [e]
  exact h.ref 2
theorem cRem3 (h : CI Q H S r W) {u v : Nat} (hu : u < Q.n) (hv : v < Q.n) (hne : ¬ u = v) (ha : ad Q.E u v = true) (hc : ¬ Cn Q.n (re Q.E u v)) : Ou W (F_85 W (nI u) (nI v)) (.inr 0) Q H S 3 := by
  have hn := h.2.1.1.2.1
  have e := cRem0 h hu hv hne
  rw [ha, if_pos (by decide)] at e
  have e12 := c12 h.1.1 h.2.1.1 (u := u) (v := v) (by omega) (by omega)
  rw [decide_eq_false (fun q => hc (Cn_pcn.1 q))] at e12
  unfold J_85_0_j23 at e
  rw [e12, Option.bind_some, if_neg (by decide), refuse] at e
  rw [e]
  exact h.ref 3
theorem cRem (h : CI Q H S r W) (hd : W.top < 900000) {u v : Nat} (hu : u < Q.n) (hv : v < Q.n) (hne : ¬ u = v) (ha : ad Q.E u v = true) (hc : Cn Q.n (re Q.E u v)) : Ou W (F_85 W (nI u) (nI v)) (.inl (nI (ec Q.n (re Q.E u v)))) (Q.wE (re Q.E u v)) (hpush H Q) S r := by
  obtain ⟨hG, hC, hO, h9⟩ := id h.2.1
  have hn := hG.2.1
  have e := cRem0 h hu hv hne
  rw [ha, if_pos (by decide)] at e
  have e12 := c12 h.1.1 hG (u := u) (v := v) (by omega) (by omega)
  rw [decide_eq_true (Cn_pcn.2 hc)] at e12
  obtain ⟨V, k1, k2, k3, k4, k5, k6, k7⟩ := h.kept hd
  have vB : CB Q.n Q.E V.board := by rw [k2]; exact h.1.1
  obtain ⟨B', b1, b2, b3, b4, b5, b6, b7, b8⟩ := c5 vB (u := u) (v := v) (by omega) (by omega)
  have hG' := hG.re (u := u) (v := v) (by omega) (by omega)
  obtain ⟨f, f1, f2⟩ := c13 b2 hG' hc
  obtain ⟨D, hD, d1, d2, d3, d4, d5, d6, d7, d8, d9⟩ := bd_dist B' f
  rw [hD] at f1 f2
  have cD : CB Q.n (re Q.E u v) D := ⟨d1.trans b2.1, d2.trans b2.2⟩
  refine Ou.mk (V := V) (D := D) ?_ (k7 D _ (h.1.edge cD (d5.trans (b3.trans (by rw [k2]))) (d3.trans (b4.trans (by rw [k2]))) (d4.trans (b5.trans (by rw [k2]))) (d6.trans (b6.trans (by rw [k2]))) (d7.trans (b7.trans (by rw [k2]))) (d8.trans (b8.trans (by rw [k2]))) f2) ⟨hG', hc, hO, h9⟩) k4 k3 k5
  rw [e]
  unfold J_85_0_j23
  rw [e12, Option.bind_some, if_pos (by decide)]
  unfold J_85_0_j40
  rw [k1, Option.bind_some, b1, Option.bind_some, Option.bind_some]
  rw [show (V.w_board B').board = B' from rfl, f1, Option.bind_some, Option.bind_some]
  rw [show ((V.w_board B').w_board D) = V.w_board D from rfl, show (V.w_board D).board = D from rfl, c7 cD hG']
  rfl
/-! piles -/
def Ps.wp (Q : Ps) (pl : Nat → Nat) : Ps := mP Q.n Q.E pl Q.mc Q.sc Q.tg Q.wt Q.pr
def Ps.wm (Q : Ps) (pl : Nat → Nat) (mc : Int32) : Ps := mP Q.n Q.E pl mc Q.sc Q.tg Q.wt Q.pr
def upl (pl : Nat → Nat) (v a : Nat) : Nat → Nat := fun w => if w = v then a else pl w
theorem BQ.pl {pl' : Nat → Nat} {mc : Int32} {B D : Bd} (h : BQ Q B) (h1 : D.vertices = B.vertices) (h2 : D.edges = B.edges) (h3 : D.distances = B.distances) (h4 : D.strategyCount = B.strategyCount) (h5 : D.targets = B.targets) (h6 : D.weights = B.weights) (h7 : D.parents = B.parents) (h8 : CP pl' D) (h9 : D.moveCount = mc) : BQ (Q.wm pl' mc) D := by
  obtain ⟨a1, a2, a3, a4, a5⟩ := h
  exact ⟨⟨h1.trans a1.1, h2.trans a1.2⟩, h8, ⟨h4.trans a3.1, fun k hk => by rw [h5, h6, h7]; exact a3.2 k hk⟩, fun u v hu hv => by rw [h3]; exact a4 u v hu hv, h9⟩
theorem cIndex1 (h : CI Q H S r W) {x : Int32} (hv : isv Q.n x = false) (z : Int32) : Ou W (F_86 W x z) (.inr 2) Q H S r ∧ Ou W (F_87 W x z) (.inr 2) Q H S r ∧ Ou W (F_89 W x) (.inr 2) Q H S r ∧ Ou W (F_90 W x) (.inr 2) Q H S r := by
  have hn := h.2.1.1.2.1
  have e := c124f h.1.1 (show Q.n < 2 ^ 31 by omega) hv
  refine ⟨?_, ?_, ?_, ?_⟩
  · have : F_86 W x z = some (.inr 2, W.thr) := by unfold F_86; rw [e]; rfl
    rw [this]; exact h.thr
  · have : F_87 W x z = some (.inr 2, W.thr) := by unfold F_87; rw [e]; rfl
    rw [this]; exact h.thr
  · have : F_89 W x = some (.inr 2, W.thr) := by unfold F_89; rw [e]; rfl
    rw [this]; exact h.thr
  · have : F_90 W x = some (.inr 2, W.thr) := by unfold F_90; rw [e]; rfl
    rw [this]; exact h.thr
theorem cPut0 (h : CI Q H S r W) {v : Nat} (hv : v < Q.n) (z : Int32) : F_86 W (nI v) z = (if z < 1 then J_86_0_j33 W else if 99 < z then J_86_0_j33 W else (ix (nI v) 6).bind fun i8 => if ((W.board.pile i8) + z) ≤ 999 then (F_50 W).bind fun B12 => (some (B12.board.w_pile (upd B12.board.pile i8 ((B12.board.pile i8) + z)))).bind fun o13 => (some (B12.w_board o13)).bind fun B15 => some (.inl (B15.board.pile i8), B15) else J_86_0_j33 W) := by
  have hn := h.2.1.1.2.1
  unfold F_86
  rw [c124t h.1.1 (by omega) hv, Option.bind_some]
  rfl
theorem cPut1 (h : CI Q H S r W) {v : Nat} (hv : v < Q.n) {z : Int32} (hz : ¬ (1 ≤ z ∧ z ≤ 99)) : Ou W (F_86 W (nI v) z) (.inr 1) Q H S r := by
  have e : F_86 W (nI v) z = some (.inr 1, W.thr) := by
    rw [cPut0 h hv]
    by_cases h0 : z < 1
    · rw [if_pos h0]; rfl
    · rw [if_neg h0, if_pos (show 99 < z from by
        rw [← Int32.not_le]
        exact fun q => hz ⟨by rw [← Int32.not_lt]; exact h0, q⟩)]
      rfl
  rw [e]; exact h.thr
theorem cPut (h : CI Q H S r W) (hd : W.top < 900000) {v a : Nat} (hv : v < Q.n) (h1 : 1 ≤ a) (h99 : a ≤ 99) : if Q.pl v + a ≤ 999 then Ou W (F_86 W (nI v) (nI a)) (.inl (nI (Q.pl v + a))) (Q.wm (upl Q.pl v (Q.pl v + a)) Q.mc) (hpush H Q) S r else Ou W (F_86 W (nI v) (nI a)) (.inr 1) Q H S r := by
  obtain ⟨hG, hC, hO, h9⟩ := id h.2.1
  have hn := hG.2.1
  have h9v := h9 v (by omega)
  have e := cPut0 h hv (nI a)
  rw [if_neg (show ¬ nI a < 1 from nI_nlt (b := 1) h1 (by omega)), if_neg (show ¬ 99 < nI a from nI_nlt (a := 99) h99 (by decide)), ixn (by omega) (by decide), Option.bind_some, h.1.2.1 v (by omega), nI_add] at e
  split
  · next hs =>
    rw [if_pos (show nI (Q.pl v + a) ≤ (999 : Int32) from nI_le (b := 999) hs (by decide))] at e
    obtain ⟨V, k1, k2, k3, k4, k5, k6, k7⟩ := h.kept hd
    have vP : CP Q.pl V.board := by rw [k2]; exact h.1.2.1
    obtain ⟨D, hD, d8, d1, d2, d3, d4, d5, d6, d7, d9⟩ := up_cp (a := Q.pl v + a) vP (show v < 6 by omega)
    have dv : D.pile v = nI (Q.pl v + a) := (d8 v (by omega)).trans (by show nI (if v = v then _ else Q.pl v) = _; rw [if_pos rfl])
    refine Ou.mk (V := V) (D := D) ?_ (k7 D _ (h.1.pl (d1.trans (by rw [k2])) (d2.trans (by rw [k2])) (d3.trans (by rw [k2])) (d4.trans (by rw [k2])) (d5.trans (by rw [k2])) (d6.trans (by rw [k2])) (d7.trans (by rw [k2])) d8 (d9.trans (by rw [k2]; exact h.1.2.2.2.2))) ⟨hG, hC, hO, fun w hw => by
      show (if w = v then _ else Q.pl w) ≤ 999
      split
      · omega
      · exact h9 w hw⟩) k4 k3 k5
    rw [e, k1, Option.bind_some, vP v (by omega), nI_add, hD, Option.bind_some, Option.bind_some]
    show some (Sum.inl (D.pile v), V.w_board D) = _
    rw [dv]
  · next hs =>
    rw [if_neg (show ¬ nI (Q.pl v + a) ≤ (999 : Int32) from nI_ge (a := 999) (by omega) (by omega))] at e
    rw [e]
    exact h.thr
theorem cTake0 (h : CI Q H S r W) {v : Nat} (hv : v < Q.n) (z : Int32) : F_87 W (nI v) z = (if z < 1 then J_87_0_j16 W else if z ≤ 99 then (ix (nI v) 6).bind fun i8 => if z ≤ (W.board.pile i8) then J_87_0_j44 W (nI v) z else (F_128 W 5).bind fun (r20, B21) => xq r20 (fun X22 => some (.inr X22, B21)) fun u23 => J_87_0_j44 B21 (nI v) z else J_87_0_j16 W) := by
  have hn := h.2.1.1.2.1
  unfold F_87
  rw [c124t h.1.1 (by omega) hv, Option.bind_some]
  rfl
theorem cTake1 (h : CI Q H S r W) {v : Nat} (hv : v < Q.n) {z : Int32} (hz : ¬ (1 ≤ z ∧ z ≤ 99)) : Ou W (F_87 W (nI v) z) (.inr 1) Q H S r := by
  have e : F_87 W (nI v) z = some (.inr 1, W.thr) := by
    rw [cTake0 h hv]
    by_cases h0 : z < 1
    · rw [if_pos h0]; rfl
    · rw [if_neg h0, if_neg (fun q => hz ⟨by rw [← Int32.not_lt]; exact h0, q⟩)]
      rfl
  rw [e]; exact h.thr
theorem cTake (h : CI Q H S r W) (hd : W.top < 900000) {v a : Nat} (hv : v < Q.n) (h1 : 1 ≤ a) (h99 : a ≤ 99) : if a ≤ Q.pl v then Ou W (F_87 W (nI v) (nI a)) (.inl (nI (Q.pl v - a))) (Q.wm (upl Q.pl v (Q.pl v - a)) Q.mc) (hpush H Q) S r else Ou W (F_87 W (nI v) (nI a)) (.inr 0) Q H S 5 := by
  obtain ⟨hG, hC, hO, h9⟩ := id h.2.1
  have hn := hG.2.1
  have h9v := h9 v (by omega)
  have e := cTake0 h hv (nI a)
  rw [if_neg (show ¬ nI a < 1 from nI_nlt (b := 1) h1 (by omega)), if_pos (show nI a ≤ 99 from nI_le (b := 99) h99 (by decide)), ixn (by omega) (by decide), Option.bind_some, h.1.2.1 v (by omega)] at e
  split
  · next hs =>
    rw [if_pos (show nI a ≤ nI (Q.pl v) from nI_le hs (by omega))] at e
    obtain ⟨V, k1, k2, k3, k4, k5, k6, k7⟩ := h.kept hd
    have vP : CP Q.pl V.board := by rw [k2]; exact h.1.2.1
    obtain ⟨D, hD, d8, d1, d2, d3, d4, d5, d6, d7, d9⟩ := up_cp (a := Q.pl v - a) vP (show v < 6 by omega)
    have dv : D.pile v = nI (Q.pl v - a) := (d8 v (by omega)).trans (by show nI (if v = v then _ else Q.pl v) = _; rw [if_pos rfl])
    refine Ou.mk (V := V) (D := D) ?_ (k7 D _ (h.1.pl (d1.trans (by rw [k2])) (d2.trans (by rw [k2])) (d3.trans (by rw [k2])) (d4.trans (by rw [k2])) (d5.trans (by rw [k2])) (d6.trans (by rw [k2])) (d7.trans (by rw [k2])) d8 (d9.trans (by rw [k2]; exact h.1.2.2.2.2))) ⟨hG, hC, hO, fun w hw => by
      show (if w = v then _ else Q.pl w) ≤ 999
      split
      · omega
      · exact h9 w hw⟩) k4 k3 k5
    rw [e]
    unfold J_87_0_j44
    rw [k1, Option.bind_some, ixn (by omega) (by decide), Option.bind_some, vP v (by omega), pk_sub hs, hD, Option.bind_some, Option.bind_some]
    show some (Sum.inl (D.pile v), V.w_board D) = _
    rw [dv]
  · next hs =>
    rw [if_neg (show ¬ nI a ≤ nI (Q.pl v) from nI_ge (by omega) (by omega)), refuse] at e
    rw [e]
    exact h.ref 5
end CALLS
