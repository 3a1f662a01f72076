/-! ===== STAGE A: the class's methods as functions (by wip/p47/gena.py) ===== -/
abbrev P_261_5 (h : AHp) (b : Nat) (c n : Nat) (N : Nat) (x1 : Int32) (x3 : Int32) (s : Int32 × (Nat → Int32)) : ASt := (5, [some (.ref b), some (.int x1), some (.int s.1), some (.int x3)], [], (hput h b (Ar.cells N s.2)), c, n)
abbrev PX_261_5 (h : AHp) (b : Nat) (c n : Nat) (N : Nat) (x1 : Int32) (x3 : Int32) (s : (Nat → Int32)) : ASt := (20, [none, none, none, none], [], (hput h b (Ar.cells N s)), c, n)
def G_261_5 (N : Nat) (x1 : Int32) (x3 : Int32) (s : Int32 × (Nat → Int32)) : Option ((Int32 × (Nat → Int32)) ⊕ ((Nat → Int32))) := 
  match s with
  | (x2, B) =>
    if x3 ≤ x2 then
      some (.inr B)
    else
      (ix x2 N).bind fun i2 =>
      (some (upd B i2 x1)).bind fun B4 =>
      some (.inl ((x2 + 1), B4))
theorem g_261_5 {d : Nat} (hd : 1 ≤ d) {scr : ASc} {res : ARe} {c n : Nat} {h : AHp} {b : Nat} (hb : b + 1 ≤ am_SB) (hh : b + 1 ≤ h.length) {N : Nat} {x1 : Int32} {x3 : Int32} {s : Int32 × (Nat → Int32)} {o : (Int32 × (Nat → Int32)) ⊕ ((Nat → Int32))} (hr : G_261_5 N x1 x3 s = some o) (ka : ∀ s, o = .inl s → Ex d am_M261 scr (P_261_5 h b c n N x1 x3 s) res) (kx : ∀ s, o = .inr s → Ex d am_M261 scr (PX_261_5 h b c n N x1 x3 s) res) : Ex d am_M261 scr (P_261_5 h b c n N x1 x3 s) res := by
  obtain ⟨x2, B⟩ := s
  delta G_261_5 at hr
  show Ex d am_M261 scr (5, [some (.ref b), some (.int x1), some (.int x2), some (.int x3)], [], (hput h b (Ar.cells N B)), c, n) res
  refine x_b 2 (S2 := (7, [some (.ref b), some (.int x1), some (.int x2), some (.int x3)], [.int x3, .int x2], (hput h b (Ar.cells N B)), c, n)) rfl ?_
  rcases ite_some hr with ⟨h1, hr⟩ | ⟨h1, hr⟩
  · refine x_ct rfl rfl (decide_eq_true h1) ?_
    refine x_fg (Lq.n (Lq.n (Lq.n (Lq.n Lq.nil)))) ?_
    exact kx B (Option.some.inj hr).symm
  · refine x_cf rfl rfl (decide_eq_false h1) ?_
    refine x_ldan rfl rfl rfl (h_lt (i := 0) hb (by decide)) ?_
    refine x_b 2 (S2 := (13, [some (.ref b), some (.int x1), some (.int x2), some (.int x3)], [.int x1, .int x2, .ref b], (hput h b (Ar.cells N B)), c, n)) rfl ?_
    obtain ⟨i2, h3, hr⟩ := bd_some hr
    obtain ⟨B4, h5, hr⟩ := bd_some hr
    refine x_iast (H := (hput h b (Ar.cells N B4))) rfl rfl (h_lt (i := 0) hb (by decide)) (hp_at (i := 0) hh rfl rfl) h3 (hp_set (i := 0) hh rfl (by decide) (Ar.s_ h5)) ?_
    refine x_b 2 (S2 := (5, [some (.ref b), some (.int x1), some (.int (x2 + 1)), some (.int x3)], [], (hput h b (Ar.cells N B4)), c, n)) rfl ?_
    refine x_fg (Lq.s (Lq.s (Lq.s (Lq.s Lq.nil)))) ?_
    exact ka ((x2 + 1), B4) (Option.some.inj hr).symm
/-- java/util/Arrays.fill([II)V -/
def F_261 (N : Nat) (B : Nat → Int32) (x1 : Int32) : Option (Nat → Int32) :=
  (lw (G_261_5 N x1 (Int32.ofNat N)) 200000 (0, B)).bind fun B7 =>
  some B7
theorem f_261 {d : Nat} (hd : 1 ≤ d) {scr : ASc} {res : ARe} {c n : Nat} {h : AHp} {b : Nat} (hb : b + 1 ≤ am_SB) (hh : b + 1 ≤ h.length) {N : Nat} {B : Nat → Int32} {x1 : Int32} {o : Nat → Int32} (hr : F_261 N B x1 = some o) (kr : res = (.inl (none), hput h b (Ar.cells N o), c, n)) : Ex d am_M261 scr (0, [some (.ref b), some (.int x1), none, none], [], (hput h b (Ar.cells N B)), c, n) res := by
  delta F_261 at hr
  refine x_b 2 (S2 := (2, [some (.ref b), some (.int x1), some (.int 0), none], [], (hput h b (Ar.cells N B)), c, n)) rfl ?_
  refine x_ldan rfl rfl rfl (h_lt (i := 0) hb (by decide)) ?_
  refine x_alen rfl rfl (h_lt (i := 0) hb (by decide)) (hp_at (i := 0) hh rfl rfl) (by decide) ?_
  refine x_b 1 (S2 := (5, [some (.ref b), some (.int x1), some (.int 0), some (.int (Int32.ofNat N))], [], (hput h b (Ar.cells N B)), c, n)) rfl ?_
  refine x_fg (Lq.s (Lq.s (Lq.s (Lq.s Lq.nil)))) ?_
  obtain ⟨B7, h6, hr⟩ := bd_some hr
  refine x_lw (P := P_261_5 h b c n N x1 (Int32.ofNat N)) (Q := fun x => Ex d am_M261 scr (PX_261_5 h b c n N x1 (Int32.ofNat N) x) res) (fun s o h1 ka kx => g_261_5 hd hb hh h1 ka kx) _ (0, B) _ h6 ?_
  show Ex d am_M261 scr (20, [none, none, none, none], [], (hput h b (Ar.cells N B7)), c, n) res
  cases hr
  rw [kr]
  exact x_ret rfl rfl rfl
theorem m_261 {scr : ASc} {h : AHp} {b : Nat} (hb : b + 1 ≤ am_SB) (hh : b + 1 ≤ h.length) {N : Nat} {B : Nat → Int32} {x1 : Int32} {o : Nat → Int32} (hr : F_261 N B x1 = some o) : Rn scr 2 261 [.ref b, .int x1] (hput h b (Ar.cells N B)) (.inl (none), hput h b (Ar.cells N o), 0, 0) :=
  x_meth (M := am_M261) rfl (show 2 ≤ 4 by decide) (f_261 (Nat.le_refl _) hb hh hr rfl)
/-- PebbleProofs$Board.begin(I)V -/
def F_1 (B : Bd) (x1 : Int32) : Option (Bd) :=
  (some (B.w_vertices x1)).bind fun B1 =>
  (some (B1.w_edges 0)).bind fun B3 =>
  (some (B3.w_moveCount 0)).bind fun B5 =>
  (some (B5.w_strategyCount 0)).bind fun B7 =>
  (F_261 6 B7.pile 0).bind fun B10 =>
  (some (B7.w_pile B10)).bind fun B11 =>
  some B11
theorem f_1 {d : Nat} (hd : 2 ≤ d) {scr : ASc} {res : ARe} {c n : Nat} {h : AHp} {b : Nat} (hb : b + 6 ≤ am_SB) (hh : b + 6 ≤ h.length) {B : Bd} {x1 : Int32} {o : Bd} (hr : F_1 B x1 = some o) (kr : res = (.inl (none), hput h b (Bd.cells b o), c, n)) : Ex d am_M1 scr (0, [some (.ref b), some (.int x1)], [], (hput h b (Bd.cells b B)), c, n) res := by
  delta F_1 at hr
  refine x_ldan rfl rfl rfl (h_lt (i := 0) hb (by decide)) ?_
  refine x_b 1 (S2 := (2, [some (.ref b), some (.int x1)], [.int x1, .ref b], (hput h b (Bd.cells b B)), c, n)) rfl ?_
  obtain ⟨B1, h2, hr⟩ := bd_some hr
  refine x_putf (H := (hput h b (Bd.cells b B1))) rfl rfl (h_lt (i := 0) hb (by decide)) (hp_at (i := 0) hh rfl rfl) ⟨(show 0 < 9 by decide), rfl, rfl, nofun⟩ (hp_set (i := 0) hh rfl (by decide) (Bd.s_vertices rfl h2)) ?_
  refine x_ldan rfl rfl rfl (h_lt (i := 0) hb (by decide)) ?_
  refine x_b 1 (S2 := (7, [some (.ref b), some (.int x1)], [.long 0, .ref b], (hput h b (Bd.cells b B1)), c, n)) rfl ?_
  obtain ⟨B3, h4, hr⟩ := bd_some hr
  refine x_putf (H := (hput h b (Bd.cells b B3))) rfl rfl (h_lt (i := 0) hb (by decide)) (hp_at (i := 0) hh rfl rfl) ⟨(show 1 < 9 by decide), rfl, rfl, nofun⟩ (hp_set (i := 0) hh rfl (by decide) (Bd.s_edges rfl h4)) ?_
  refine x_ldan rfl rfl rfl (h_lt (i := 0) hb (by decide)) ?_
  refine x_b 1 (S2 := (12, [some (.ref b), some (.int x1)], [.int 0, .ref b], (hput h b (Bd.cells b B3)), c, n)) rfl ?_
  obtain ⟨B5, h6, hr⟩ := bd_some hr
  refine x_putf (H := (hput h b (Bd.cells b B5))) rfl rfl (h_lt (i := 0) hb (by decide)) (hp_at (i := 0) hh rfl rfl) ⟨(show 2 < 9 by decide), rfl, rfl, nofun⟩ (hp_set (i := 0) hh rfl (by decide) (Bd.s_moveCount rfl h6)) ?_
  refine x_ldan rfl rfl rfl (h_lt (i := 0) hb (by decide)) ?_
  refine x_b 1 (S2 := (17, [some (.ref b), some (.int x1)], [.int 0, .ref b], (hput h b (Bd.cells b B5)), c, n)) rfl ?_
  obtain ⟨B7, h8, hr⟩ := bd_some hr
  refine x_putf (H := (hput h b (Bd.cells b B7))) rfl rfl (h_lt (i := 0) hb (by decide)) (hp_at (i := 0) hh rfl rfl) ⟨(show 3 < 9 by decide), rfl, rfl, nofun⟩ (hp_set (i := 0) hh rfl (by decide) (Bd.s_strategyCount rfl h8)) ?_
  refine x_ldan rfl rfl rfl (h_lt (i := 0) hb (by decide)) ?_
  refine x_getf rfl rfl (h_lt (i := 0) hb (by decide)) (hp_at (i := 0) hh rfl rfl) rfl ?_
  refine x_b 1 (S2 := (25, [some (.ref b), some (.int x1)], [.int 0, .ref (b + 1)], (hput h b (Bd.cells b B7)), c, n)) rfl ?_
  obtain ⟨B10, h9, hr⟩ := bd_some hr
  obtain ⟨B11, h12, hr⟩ := bd_some hr
  refine x_c0 (ar_call (H' := (hput h b (Bd.cells b B11))) (fun hb hh => m_261 hb hh h9) (h_lt (i := 1) hb (by decide)) (hp_at (i := 1) hh rfl rfl) (hp_set (i := 1) hh rfl (by decide) (Bd.s_pile h12))) rfl rfl rfl rfl rfl (by omega) ?_
  cases hr
  rw [kr]
  exact x_ret rfl rfl rfl
theorem m_1 {scr : ASc} {h : AHp} {b : Nat} (hb : b + 6 ≤ am_SB) (hh : b + 6 ≤ h.length) {B : Bd} {x1 : Int32} {o : Bd} (hr : F_1 B x1 = some o) : Rn scr 3 1 [.ref b, .int x1] (hput h b (Bd.cells b B)) (.inl (none), hput h b (Bd.cells b o), 0, 0) :=
  x_meth (M := am_M1) rfl (show 2 ≤ 2 by decide) (f_1 (Nat.le_refl _) hb hh hr rfl)
/-- PebbleProofs$Board.edgeBits(II)J -/
def F_3 (x0 : Int32) (x1 : Int32) : Option (Int64) :=
  some ((1 <<< (((6 * x0) + x1).toInt64 &&& 63)) ||| (1 <<< (((6 * x1) + x0).toInt64 &&& 63)))
theorem f_3 {d : Nat} (hd : 1 ≤ d) {scr : ASc} {res : ARe} {c n : Nat} {H : AHp} {x0 : Int32} {x1 : Int32} {o : Int64} (hr : F_3 x0 x1 = some o) (kr : res = (.inl (some (.long o)), H, c, n)) : Ex d am_M3 scr (0, [some (.int x0), some (.int x1)], [], H, c, n) res := by
  delta F_3 at hr
  refine x_b 15 (S2 := (17, [some (.int x0), some (.int x1)], [.long ((1 <<< (((6 * x0) + x1).toInt64 &&& 63)) ||| (1 <<< (((6 * x1) + x0).toInt64 &&& 63)))], H, c, n)) rfl ?_
  cases hr
  rw [kr]
  exact x_ret rfl rfl rfl
theorem m_3 {scr : ASc} {H : AHp} {x0 : Int32} {x1 : Int32} {o : Int64} (hr : F_3 x0 x1 = some o) : Rn scr 2 3 [.int x0, .int x1] H (.inl (some (.long o)), H, 0, 0) :=
  x_meth (M := am_M3) rfl (show 2 ≤ 2 by decide) (f_3 (Nat.le_refl _) hr rfl)
/-- PebbleProofs$Board.join(II)V -/
def F_4 (B : Bd) (x1 : Int32) (x2 : Int32) : Option (Bd) :=
  (F_3 x1 x2).bind fun v2 =>
  (some (B.w_edges (B.edges ||| v2))).bind fun B3 =>
  some B3
theorem f_4 {d : Nat} (hd : 2 ≤ d) {scr : ASc} {res : ARe} {c n : Nat} {h : AHp} {b : Nat} (hb : b + 6 ≤ am_SB) (hh : b + 6 ≤ h.length) {B : Bd} {x1 : Int32} {x2 : Int32} {o : Bd} (hr : F_4 B x1 x2 = some o) (kr : res = (.inl (none), hput h b (Bd.cells b o), c, n)) : Ex d am_M4 scr (0, [some (.ref b), some (.int x1), some (.int x2)], [], (hput h b (Bd.cells b B)), c, n) res := by
  delta F_4 at hr
  refine x_ldan rfl rfl rfl (h_lt (i := 0) hb (by decide)) ?_
  refine x_b 1 (S2 := (2, [some (.ref b), some (.int x1), some (.int x2)], [.ref b, .ref b], (hput h b (Bd.cells b B)), c, n)) rfl ?_
  refine x_getf rfl rfl (h_lt (i := 0) hb (by decide)) (hp_at (i := 0) hh rfl rfl) rfl ?_
  refine x_b 2 (S2 := (7, [some (.ref b), some (.int x1), some (.int x2)], [.int x2, .int x1, .long B.edges, .ref b], (hput h b (Bd.cells b B)), c, n)) rfl ?_
  obtain ⟨v2, h1, hr⟩ := bd_some hr
  refine x_c0 (m_3 h1) rfl rfl rfl rfl rfl (by omega) ?_
  refine x_b 1 (S2 := (11, [some (.ref b), some (.int x1), some (.int x2)], [.long (B.edges ||| v2), .ref b], (hput h b (Bd.cells b B)), c, n)) rfl ?_
  obtain ⟨B3, h4, hr⟩ := bd_some hr
  refine x_putf (H := (hput h b (Bd.cells b B3))) rfl rfl (h_lt (i := 0) hb (by decide)) (hp_at (i := 0) hh rfl rfl) ⟨(show 1 < 9 by decide), rfl, rfl, nofun⟩ (hp_set (i := 0) hh rfl (by decide) (Bd.s_edges rfl h4)) ?_
  cases hr
  rw [kr]
  exact x_ret rfl rfl rfl
theorem m_4 {scr : ASc} {h : AHp} {b : Nat} (hb : b + 6 ≤ am_SB) (hh : b + 6 ≤ h.length) {B : Bd} {x1 : Int32} {x2 : Int32} {o : Bd} (hr : F_4 B x1 x2 = some o) : Rn scr 3 4 [.ref b, .int x1, .int x2] (hput h b (Bd.cells b B)) (.inl (none), hput h b (Bd.cells b o), 0, 0) :=
  x_meth (M := am_M4) rfl (show 3 ≤ 3 by decide) (f_4 (Nat.le_refl _) hb hh hr rfl)
/-- PebbleProofs$Board.part(II)V -/
def F_5 (B : Bd) (x1 : Int32) (x2 : Int32) : Option (Bd) :=
  (F_3 x1 x2).bind fun v2 =>
  (some (B.w_edges (B.edges &&& (v2 ^^^ (18446744073709551615 : Int64))))).bind fun B3 =>
  some B3
theorem f_5 {d : Nat} (hd : 2 ≤ d) {scr : ASc} {res : ARe} {c n : Nat} {h : AHp} {b : Nat} (hb : b + 6 ≤ am_SB) (hh : b + 6 ≤ h.length) {B : Bd} {x1 : Int32} {x2 : Int32} {o : Bd} (hr : F_5 B x1 x2 = some o) (kr : res = (.inl (none), hput h b (Bd.cells b o), c, n)) : Ex d am_M5 scr (0, [some (.ref b), some (.int x1), some (.int x2)], [], (hput h b (Bd.cells b B)), c, n) res := by
  delta F_5 at hr
  refine x_ldan rfl rfl rfl (h_lt (i := 0) hb (by decide)) ?_
  refine x_b 1 (S2 := (2, [some (.ref b), some (.int x1), some (.int x2)], [.ref b, .ref b], (hput h b (Bd.cells b B)), c, n)) rfl ?_
  refine x_getf rfl rfl (h_lt (i := 0) hb (by decide)) (hp_at (i := 0) hh rfl rfl) rfl ?_
  refine x_b 2 (S2 := (7, [some (.ref b), some (.int x1), some (.int x2)], [.int x2, .int x1, .long B.edges, .ref b], (hput h b (Bd.cells b B)), c, n)) rfl ?_
  obtain ⟨v2, h1, hr⟩ := bd_some hr
  refine x_c0 (m_3 h1) rfl rfl rfl rfl rfl (by omega) ?_
  refine x_b 3 (S2 := (15, [some (.ref b), some (.int x1), some (.int x2)], [.long (B.edges &&& (v2 ^^^ (18446744073709551615 : Int64))), .ref b], (hput h b (Bd.cells b B)), c, n)) rfl ?_
  obtain ⟨B3, h4, hr⟩ := bd_some hr
  refine x_putf (H := (hput h b (Bd.cells b B3))) rfl rfl (h_lt (i := 0) hb (by decide)) (hp_at (i := 0) hh rfl rfl) ⟨(show 1 < 9 by decide), rfl, rfl, nofun⟩ (hp_set (i := 0) hh rfl (by decide) (Bd.s_edges rfl h4)) ?_
  cases hr
  rw [kr]
  exact x_ret rfl rfl rfl
theorem m_5 {scr : ASc} {h : AHp} {b : Nat} (hb : b + 6 ≤ am_SB) (hh : b + 6 ≤ h.length) {B : Bd} {x1 : Int32} {x2 : Int32} {o : Bd} (hr : F_5 B x1 x2 = some o) : Rn scr 3 5 [.ref b, .int x1, .int x2] (hput h b (Bd.cells b B)) (.inl (none), hput h b (Bd.cells b o), 0, 0) :=
  x_meth (M := am_M5) rfl (show 3 ≤ 3 by decide) (f_5 (Nat.le_refl _) hb hh hr rfl)
def J_6_0_j23 (B : Bd) (t0 : Int32) : Option (Int32) :=
  if t0 = 0 ∨ t0 = 1 then some t0 else none
theorem j_6_0_j23 {d : Nat} (hd : 1 ≤ d) {scr : ASc} {res : ARe} {c n : Nat} {H : AHp} {b : Nat} {B : Bd} {t0 : Int32} (hR : Rg H b (Bd.cells b B)) {o : Int32} (hr : J_6_0_j23 B t0 = some o) (kr : res = (.inl (some (.int o)), H, c, n)) : Ex d am_M6 scr (23, [none, none, none], [.int t0], H, c, n) res := by
  delta J_6_0_j23 at hr
  obtain ⟨h2, hr⟩ := itn_some hr
  cases hr
  rw [kr]
  exact x_ret rfl rfl (am_ret_z h2)
/-- PebbleProofs$Board.joins(II)Z -/
def F_6 (B : Bd) (x1 : Int32) (x2 : Int32) : Option (Int32) :=
  if (lg_cmp ((B.edges >>> (((6 * x1) + x2).toInt64 &&& 63)) &&& 1) 0) = 0 then
    J_6_0_j23 B 0
  else
    J_6_0_j23 B 1
theorem f_6 {d : Nat} (hd : 1 ≤ d) {scr : ASc} {res : ARe} {c n : Nat} {H : AHp} {b : Nat} {B : Bd} {x1 : Int32} {x2 : Int32} (hR : Rg H b (Bd.cells b B)) {o : Int32} (hr : F_6 B x1 x2 = some o) (kr : res = (.inl (some (.int o)), H, c, n)) : Ex d am_M6 scr (0, [some (.ref b), some (.int x1), some (.int x2)], [], H, c, n) res := by
  delta F_6 at hr
  refine x_ldan rfl rfl rfl (hR.lt (i := 0) (show 0 < 6 by decide)) ?_
  refine x_getf rfl rfl (hR.lt (i := 0) (show 0 < 6 by decide)) (hR.at (i := 0) rfl) rfl ?_
  refine x_b 10 (S2 := (15, [some (.ref b), some (.int x1), some (.int x2)], [.int (lg_cmp ((B.edges >>> (((6 * x1) + x2).toInt64 &&& 63)) &&& 1) 0)], H, c, n)) rfl ?_
  rcases ite_some hr with ⟨h1, hr⟩ | ⟨h1, hr⟩
  · refine x_zt rfl rfl (decide_eq_true h1) ?_
    refine x_b 1 (S2 := (23, [some (.ref b), some (.int x1), some (.int x2)], [.int 0], H, c, n)) rfl ?_
    refine x_fg (Lq.n (Lq.n (Lq.n Lq.nil))) ?_
    exact j_6_0_j23 hd hR hr kr
  · refine x_zf rfl rfl (decide_eq_false h1) ?_
    refine x_b 2 (S2 := (23, [some (.ref b), some (.int x1), some (.int x2)], [.int 1], H, c, n)) rfl ?_
    refine x_fg (Lq.n (Lq.n (Lq.n Lq.nil))) ?_
    exact j_6_0_j23 hd hR hr kr
theorem m_6 {scr : ASc} {H : AHp} {b : Nat} {B : Bd} {x1 : Int32} {x2 : Int32} (hR : Rg H b (Bd.cells b B)) {o : Int32} (hr : F_6 B x1 x2 = some o) : Rn scr 2 6 [.ref b, .int x1, .int x2] H (.inl (some (.int o)), H, 0, 0) :=
  x_meth (M := am_M6) rfl (show 3 ≤ 3 by decide) (f_6 (Nat.le_refl _) hR hr rfl)
/-- java/lang/Long.bitCount(J)I -/
def F_254 (x0 : Int64) : Option (Int32) :=
  some ((((((((((x0 - ((ulshr x0 1) &&& (6148914691236517205 : Int64))) &&& (3689348814741910323 : Int64)) + ((ulshr (x0 - ((ulshr x0 1) &&& (6148914691236517205 : Int64))) 2) &&& (3689348814741910323 : Int64))) + (ulshr (((x0 - ((ulshr x0 1) &&& (6148914691236517205 : Int64))) &&& (3689348814741910323 : Int64)) + ((ulshr (x0 - ((ulshr x0 1) &&& (6148914691236517205 : Int64))) 2) &&& (3689348814741910323 : Int64))) 4)) &&& (1085102592571150095 : Int64)) + (ulshr (((((x0 - ((ulshr x0 1) &&& (6148914691236517205 : Int64))) &&& (3689348814741910323 : Int64)) + ((ulshr (x0 - ((ulshr x0 1) &&& (6148914691236517205 : Int64))) 2) &&& (3689348814741910323 : Int64))) + (ulshr (((x0 - ((ulshr x0 1) &&& (6148914691236517205 : Int64))) &&& (3689348814741910323 : Int64)) + ((ulshr (x0 - ((ulshr x0 1) &&& (6148914691236517205 : Int64))) 2) &&& (3689348814741910323 : Int64))) 4)) &&& (1085102592571150095 : Int64)) 8)) + (ulshr ((((((x0 - ((ulshr x0 1) &&& (6148914691236517205 : Int64))) &&& (3689348814741910323 : Int64)) + ((ulshr (x0 - ((ulshr x0 1) &&& (6148914691236517205 : Int64))) 2) &&& (3689348814741910323 : Int64))) + (ulshr (((x0 - ((ulshr x0 1) &&& (6148914691236517205 : Int64))) &&& (3689348814741910323 : Int64)) + ((ulshr (x0 - ((ulshr x0 1) &&& (6148914691236517205 : Int64))) 2) &&& (3689348814741910323 : Int64))) 4)) &&& (1085102592571150095 : Int64)) + (ulshr (((((x0 - ((ulshr x0 1) &&& (6148914691236517205 : Int64))) &&& (3689348814741910323 : Int64)) + ((ulshr (x0 - ((ulshr x0 1) &&& (6148914691236517205 : Int64))) 2) &&& (3689348814741910323 : Int64))) + (ulshr (((x0 - ((ulshr x0 1) &&& (6148914691236517205 : Int64))) &&& (3689348814741910323 : Int64)) + ((ulshr (x0 - ((ulshr x0 1) &&& (6148914691236517205 : Int64))) 2) &&& (3689348814741910323 : Int64))) 4)) &&& (1085102592571150095 : Int64)) 8)) 16)) + (ulshr (((((((x0 - ((ulshr x0 1) &&& (6148914691236517205 : Int64))) &&& (3689348814741910323 : Int64)) + ((ulshr (x0 - ((ulshr x0 1) &&& (6148914691236517205 : Int64))) 2) &&& (3689348814741910323 : Int64))) + (ulshr (((x0 - ((ulshr x0 1) &&& (6148914691236517205 : Int64))) &&& (3689348814741910323 : Int64)) + ((ulshr (x0 - ((ulshr x0 1) &&& (6148914691236517205 : Int64))) 2) &&& (3689348814741910323 : Int64))) 4)) &&& (1085102592571150095 : Int64)) + (ulshr (((((x0 - ((ulshr x0 1) &&& (6148914691236517205 : Int64))) &&& (3689348814741910323 : Int64)) + ((ulshr (x0 - ((ulshr x0 1) &&& (6148914691236517205 : Int64))) 2) &&& (3689348814741910323 : Int64))) + (ulshr (((x0 - ((ulshr x0 1) &&& (6148914691236517205 : Int64))) &&& (3689348814741910323 : Int64)) + ((ulshr (x0 - ((ulshr x0 1) &&& (6148914691236517205 : Int64))) 2) &&& (3689348814741910323 : Int64))) 4)) &&& (1085102592571150095 : Int64)) 8)) + (ulshr ((((((x0 - ((ulshr x0 1) &&& (6148914691236517205 : Int64))) &&& (3689348814741910323 : Int64)) + ((ulshr (x0 - ((ulshr x0 1) &&& (6148914691236517205 : Int64))) 2) &&& (3689348814741910323 : Int64))) + (ulshr (((x0 - ((ulshr x0 1) &&& (6148914691236517205 : Int64))) &&& (3689348814741910323 : Int64)) + ((ulshr (x0 - ((ulshr x0 1) &&& (6148914691236517205 : Int64))) 2) &&& (3689348814741910323 : Int64))) 4)) &&& (1085102592571150095 : Int64)) + (ulshr (((((x0 - ((ulshr x0 1) &&& (6148914691236517205 : Int64))) &&& (3689348814741910323 : Int64)) + ((ulshr (x0 - ((ulshr x0 1) &&& (6148914691236517205 : Int64))) 2) &&& (3689348814741910323 : Int64))) + (ulshr (((x0 - ((ulshr x0 1) &&& (6148914691236517205 : Int64))) &&& (3689348814741910323 : Int64)) + ((ulshr (x0 - ((ulshr x0 1) &&& (6148914691236517205 : Int64))) 2) &&& (3689348814741910323 : Int64))) 4)) &&& (1085102592571150095 : Int64)) 8)) 16)) 32)).toInt32) &&& 127)
theorem f_254 {d : Nat} (hd : 1 ≤ d) {scr : ASc} {res : ARe} {c n : Nat} {H : AHp} {x0 : Int64} {o : Int32} (hr : F_254 x0 = some o) (kr : res = (.inl (some (.int o)), H, c, n)) : Ex d am_M254 scr (0, [some (.long x0), none], [], H, c, n) res := by
  delta F_254 at hr
  refine x_b 48 (S2 := (60, [some (.long ((((((((x0 - ((ulshr x0 1) &&& (6148914691236517205 : Int64))) &&& (3689348814741910323 : Int64)) + ((ulshr (x0 - ((ulshr x0 1) &&& (6148914691236517205 : Int64))) 2) &&& (3689348814741910323 : Int64))) + (ulshr (((x0 - ((ulshr x0 1) &&& (6148914691236517205 : Int64))) &&& (3689348814741910323 : Int64)) + ((ulshr (x0 - ((ulshr x0 1) &&& (6148914691236517205 : Int64))) 2) &&& (3689348814741910323 : Int64))) 4)) &&& (1085102592571150095 : Int64)) + (ulshr (((((x0 - ((ulshr x0 1) &&& (6148914691236517205 : Int64))) &&& (3689348814741910323 : Int64)) + ((ulshr (x0 - ((ulshr x0 1) &&& (6148914691236517205 : Int64))) 2) &&& (3689348814741910323 : Int64))) + (ulshr (((x0 - ((ulshr x0 1) &&& (6148914691236517205 : Int64))) &&& (3689348814741910323 : Int64)) + ((ulshr (x0 - ((ulshr x0 1) &&& (6148914691236517205 : Int64))) 2) &&& (3689348814741910323 : Int64))) 4)) &&& (1085102592571150095 : Int64)) 8)) + (ulshr ((((((x0 - ((ulshr x0 1) &&& (6148914691236517205 : Int64))) &&& (3689348814741910323 : Int64)) + ((ulshr (x0 - ((ulshr x0 1) &&& (6148914691236517205 : Int64))) 2) &&& (3689348814741910323 : Int64))) + (ulshr (((x0 - ((ulshr x0 1) &&& (6148914691236517205 : Int64))) &&& (3689348814741910323 : Int64)) + ((ulshr (x0 - ((ulshr x0 1) &&& (6148914691236517205 : Int64))) 2) &&& (3689348814741910323 : Int64))) 4)) &&& (1085102592571150095 : Int64)) + (ulshr (((((x0 - ((ulshr x0 1) &&& (6148914691236517205 : Int64))) &&& (3689348814741910323 : Int64)) + ((ulshr (x0 - ((ulshr x0 1) &&& (6148914691236517205 : Int64))) 2) &&& (3689348814741910323 : Int64))) + (ulshr (((x0 - ((ulshr x0 1) &&& (6148914691236517205 : Int64))) &&& (3689348814741910323 : Int64)) + ((ulshr (x0 - ((ulshr x0 1) &&& (6148914691236517205 : Int64))) 2) &&& (3689348814741910323 : Int64))) 4)) &&& (1085102592571150095 : Int64)) 8)) 16)) + (ulshr (((((((x0 - ((ulshr x0 1) &&& (6148914691236517205 : Int64))) &&& (3689348814741910323 : Int64)) + ((ulshr (x0 - ((ulshr x0 1) &&& (6148914691236517205 : Int64))) 2) &&& (3689348814741910323 : Int64))) + (ulshr (((x0 - ((ulshr x0 1) &&& (6148914691236517205 : Int64))) &&& (3689348814741910323 : Int64)) + ((ulshr (x0 - ((ulshr x0 1) &&& (6148914691236517205 : Int64))) 2) &&& (3689348814741910323 : Int64))) 4)) &&& (1085102592571150095 : Int64)) + (ulshr (((((x0 - ((ulshr x0 1) &&& (6148914691236517205 : Int64))) &&& (3689348814741910323 : Int64)) + ((ulshr (x0 - ((ulshr x0 1) &&& (6148914691236517205 : Int64))) 2) &&& (3689348814741910323 : Int64))) + (ulshr (((x0 - ((ulshr x0 1) &&& (6148914691236517205 : Int64))) &&& (3689348814741910323 : Int64)) + ((ulshr (x0 - ((ulshr x0 1) &&& (6148914691236517205 : Int64))) 2) &&& (3689348814741910323 : Int64))) 4)) &&& (1085102592571150095 : Int64)) 8)) + (ulshr ((((((x0 - ((ulshr x0 1) &&& (6148914691236517205 : Int64))) &&& (3689348814741910323 : Int64)) + ((ulshr (x0 - ((ulshr x0 1) &&& (6148914691236517205 : Int64))) 2) &&& (3689348814741910323 : Int64))) + (ulshr (((x0 - ((ulshr x0 1) &&& (6148914691236517205 : Int64))) &&& (3689348814741910323 : Int64)) + ((ulshr (x0 - ((ulshr x0 1) &&& (6148914691236517205 : Int64))) 2) &&& (3689348814741910323 : Int64))) 4)) &&& (1085102592571150095 : Int64)) + (ulshr (((((x0 - ((ulshr x0 1) &&& (6148914691236517205 : Int64))) &&& (3689348814741910323 : Int64)) + ((ulshr (x0 - ((ulshr x0 1) &&& (6148914691236517205 : Int64))) 2) &&& (3689348814741910323 : Int64))) + (ulshr (((x0 - ((ulshr x0 1) &&& (6148914691236517205 : Int64))) &&& (3689348814741910323 : Int64)) + ((ulshr (x0 - ((ulshr x0 1) &&& (6148914691236517205 : Int64))) 2) &&& (3689348814741910323 : Int64))) 4)) &&& (1085102592571150095 : Int64)) 8)) 16)) 32))), none], [.int ((((((((((x0 - ((ulshr x0 1) &&& (6148914691236517205 : Int64))) &&& (3689348814741910323 : Int64)) + ((ulshr (x0 - ((ulshr x0 1) &&& (6148914691236517205 : Int64))) 2) &&& (3689348814741910323 : Int64))) + (ulshr (((x0 - ((ulshr x0 1) &&& (6148914691236517205 : Int64))) &&& (3689348814741910323 : Int64)) + ((ulshr (x0 - ((ulshr x0 1) &&& (6148914691236517205 : Int64))) 2) &&& (3689348814741910323 : Int64))) 4)) &&& (1085102592571150095 : Int64)) + (ulshr (((((x0 - ((ulshr x0 1) &&& (6148914691236517205 : Int64))) &&& (3689348814741910323 : Int64)) + ((ulshr (x0 - ((ulshr x0 1) &&& (6148914691236517205 : Int64))) 2) &&& (3689348814741910323 : Int64))) + (ulshr (((x0 - ((ulshr x0 1) &&& (6148914691236517205 : Int64))) &&& (3689348814741910323 : Int64)) + ((ulshr (x0 - ((ulshr x0 1) &&& (6148914691236517205 : Int64))) 2) &&& (3689348814741910323 : Int64))) 4)) &&& (1085102592571150095 : Int64)) 8)) + (ulshr ((((((x0 - ((ulshr x0 1) &&& (6148914691236517205 : Int64))) &&& (3689348814741910323 : Int64)) + ((ulshr (x0 - ((ulshr x0 1) &&& (6148914691236517205 : Int64))) 2) &&& (3689348814741910323 : Int64))) + (ulshr (((x0 - ((ulshr x0 1) &&& (6148914691236517205 : Int64))) &&& (3689348814741910323 : Int64)) + ((ulshr (x0 - ((ulshr x0 1) &&& (6148914691236517205 : Int64))) 2) &&& (3689348814741910323 : Int64))) 4)) &&& (1085102592571150095 : Int64)) + (ulshr (((((x0 - ((ulshr x0 1) &&& (6148914691236517205 : Int64))) &&& (3689348814741910323 : Int64)) + ((ulshr (x0 - ((ulshr x0 1) &&& (6148914691236517205 : Int64))) 2) &&& (3689348814741910323 : Int64))) + (ulshr (((x0 - ((ulshr x0 1) &&& (6148914691236517205 : Int64))) &&& (3689348814741910323 : Int64)) + ((ulshr (x0 - ((ulshr x0 1) &&& (6148914691236517205 : Int64))) 2) &&& (3689348814741910323 : Int64))) 4)) &&& (1085102592571150095 : Int64)) 8)) 16)) + (ulshr (((((((x0 - ((ulshr x0 1) &&& (6148914691236517205 : Int64))) &&& (3689348814741910323 : Int64)) + ((ulshr (x0 - ((ulshr x0 1) &&& (6148914691236517205 : Int64))) 2) &&& (3689348814741910323 : Int64))) + (ulshr (((x0 - ((ulshr x0 1) &&& (6148914691236517205 : Int64))) &&& (3689348814741910323 : Int64)) + ((ulshr (x0 - ((ulshr x0 1) &&& (6148914691236517205 : Int64))) 2) &&& (3689348814741910323 : Int64))) 4)) &&& (1085102592571150095 : Int64)) + (ulshr (((((x0 - ((ulshr x0 1) &&& (6148914691236517205 : Int64))) &&& (3689348814741910323 : Int64)) + ((ulshr (x0 - ((ulshr x0 1) &&& (6148914691236517205 : Int64))) 2) &&& (3689348814741910323 : Int64))) + (ulshr (((x0 - ((ulshr x0 1) &&& (6148914691236517205 : Int64))) &&& (3689348814741910323 : Int64)) + ((ulshr (x0 - ((ulshr x0 1) &&& (6148914691236517205 : Int64))) 2) &&& (3689348814741910323 : Int64))) 4)) &&& (1085102592571150095 : Int64)) 8)) + (ulshr ((((((x0 - ((ulshr x0 1) &&& (6148914691236517205 : Int64))) &&& (3689348814741910323 : Int64)) + ((ulshr (x0 - ((ulshr x0 1) &&& (6148914691236517205 : Int64))) 2) &&& (3689348814741910323 : Int64))) + (ulshr (((x0 - ((ulshr x0 1) &&& (6148914691236517205 : Int64))) &&& (3689348814741910323 : Int64)) + ((ulshr (x0 - ((ulshr x0 1) &&& (6148914691236517205 : Int64))) 2) &&& (3689348814741910323 : Int64))) 4)) &&& (1085102592571150095 : Int64)) + (ulshr (((((x0 - ((ulshr x0 1) &&& (6148914691236517205 : Int64))) &&& (3689348814741910323 : Int64)) + ((ulshr (x0 - ((ulshr x0 1) &&& (6148914691236517205 : Int64))) 2) &&& (3689348814741910323 : Int64))) + (ulshr (((x0 - ((ulshr x0 1) &&& (6148914691236517205 : Int64))) &&& (3689348814741910323 : Int64)) + ((ulshr (x0 - ((ulshr x0 1) &&& (6148914691236517205 : Int64))) 2) &&& (3689348814741910323 : Int64))) 4)) &&& (1085102592571150095 : Int64)) 8)) 16)) 32)).toInt32) &&& 127)], H, c, n)) rfl ?_
  cases hr
  rw [kr]
  exact x_ret rfl rfl am_ret_i
theorem m_254 {scr : ASc} {H : AHp} {x0 : Int64} {o : Int32} (hr : F_254 x0 = some o) : Rn scr 2 254 [.long x0] H (.inl (some (.int o)), H, 0, 0) :=
  x_meth (M := am_M254) rfl (show 2 ≤ 2 by decide) (f_254 (Nat.le_refl _) hr rfl)
/-- PebbleProofs$Board.edgeCount()I -/
def F_7 (B : Bd) : Option (Int32) :=
  (F_254 B.edges).bind fun v2 =>
  some (v2 / 2)
theorem f_7 {d : Nat} (hd : 2 ≤ d) {scr : ASc} {res : ARe} {c n : Nat} {H : AHp} {b : Nat} {B : Bd} (hR : Rg H b (Bd.cells b B)) {o : Int32} (hr : F_7 B = some o) (kr : res = (.inl (some (.int o)), H, c, n)) : Ex d am_M7 scr (0, [some (.ref b)], [], H, c, n) res := by
  delta F_7 at hr
  refine x_ldan rfl rfl rfl (hR.lt (i := 0) (show 0 < 6 by decide)) ?_
  refine x_getf rfl rfl (hR.lt (i := 0) (show 0 < 6 by decide)) (hR.at (i := 0) rfl) rfl ?_
  obtain ⟨v2, h1, hr⟩ := bd_some hr
  refine x_c0 (m_254 h1) rfl rfl rfl rfl rfl (by omega) ?_
  refine x_b 1 (S2 := (8, [some (.ref b)], [.int 2, .int v2], H, c, n)) rfl ?_
  refine x_div rfl rfl (by decide) ?_
  cases hr
  rw [kr]
  exact x_ret rfl rfl am_ret_i
theorem m_7 {scr : ASc} {H : AHp} {b : Nat} {B : Bd} (hR : Rg H b (Bd.cells b B)) {o : Int32} (hr : F_7 B = some o) : Rn scr 3 7 [.ref b] H (.inl (some (.int o)), H, 0, 0) :=
  x_meth (M := am_M7) rfl (show 1 ≤ 1 by decide) (f_7 (Nat.le_refl _) hR hr rfl)
/-- PebbleProofs$Board.neighboursIn(JI)I -/
def F_8 (x0 : Int64) (x2 : Int32) : Option (Int32) :=
  some (((x0 >>> ((6 * x2).toInt64 &&& 63)).toInt32) &&& 63)
theorem f_8 {d : Nat} (hd : 1 ≤ d) {scr : ASc} {res : ARe} {c n : Nat} {H : AHp} {x0 : Int64} {x2 : Int32} {o : Int32} (hr : F_8 x0 x2 = some o) (kr : res = (.inl (some (.int o)), H, c, n)) : Ex d am_M8 scr (0, [some (.long x0), none, some (.int x2)], [], H, c, n) res := by
  delta F_8 at hr
  refine x_b 8 (S2 := (10, [some (.long x0), none, some (.int x2)], [.int (((x0 >>> ((6 * x2).toInt64 &&& 63)).toInt32) &&& 63)], H, c, n)) rfl ?_
  cases hr
  rw [kr]
  exact x_ret rfl rfl am_ret_i
theorem m_8 {scr : ASc} {H : AHp} {x0 : Int64} {x2 : Int32} {o : Int32} (hr : F_8 x0 x2 = some o) : Rn scr 2 8 [.long x0, .int x2] H (.inl (some (.int o)), H, 0, 0) :=
  x_meth (M := am_M8) rfl (show 3 ≤ 3 by decide) (f_8 (Nat.le_refl _) hr rfl)
/-- PebbleProofs$Board.neighbours(I)I -/
def F_9 (B : Bd) (x1 : Int32) : Option (Int32) :=
  (F_8 B.edges x1).bind fun v2 =>
  some v2
theorem f_9 {d : Nat} (hd : 2 ≤ d) {scr : ASc} {res : ARe} {c n : Nat} {H : AHp} {b : Nat} {B : Bd} {x1 : Int32} (hR : Rg H b (Bd.cells b B)) {o : Int32} (hr : F_9 B x1 = some o) (kr : res = (.inl (some (.int o)), H, c, n)) : Ex d am_M9 scr (0, [some (.ref b), some (.int x1)], [], H, c, n) res := by
  delta F_9 at hr
  refine x_ldan rfl rfl rfl (hR.lt (i := 0) (show 0 < 6 by decide)) ?_
  refine x_getf rfl rfl (hR.lt (i := 0) (show 0 < 6 by decide)) (hR.at (i := 0) rfl) rfl ?_
  refine x_b 1 (S2 := (5, [some (.ref b), some (.int x1)], [.int x1, .long B.edges], H, c, n)) rfl ?_
  obtain ⟨v2, h1, hr⟩ := bd_some hr
  refine x_c0 (m_8 h1) rfl rfl rfl rfl rfl (by omega) ?_
  cases hr
  rw [kr]
  exact x_ret rfl rfl am_ret_i
theorem m_9 {scr : ASc} {H : AHp} {b : Nat} {B : Bd} {x1 : Int32} (hR : Rg H b (Bd.cells b B)) {o : Int32} (hr : F_9 B x1 = some o) : Rn scr 3 9 [.ref b, .int x1] H (.inl (some (.int o)), H, 0, 0) :=
  x_meth (M := am_M9) rfl (show 2 ≤ 2 by decide) (f_9 (Nat.le_refl _) hR hr rfl)
/-- java/lang/Integer.bitCount(I)I -/
def F_253 (x0 : Int32) : Option (Int32) :=
  some ((((((((x0 - ((ushr x0 1) &&& (1431655765 : Int32))) &&& (858993459 : Int32)) + ((ushr (x0 - ((ushr x0 1) &&& (1431655765 : Int32))) 2) &&& (858993459 : Int32))) + (ushr (((x0 - ((ushr x0 1) &&& (1431655765 : Int32))) &&& (858993459 : Int32)) + ((ushr (x0 - ((ushr x0 1) &&& (1431655765 : Int32))) 2) &&& (858993459 : Int32))) 4)) &&& (252645135 : Int32)) + (ushr (((((x0 - ((ushr x0 1) &&& (1431655765 : Int32))) &&& (858993459 : Int32)) + ((ushr (x0 - ((ushr x0 1) &&& (1431655765 : Int32))) 2) &&& (858993459 : Int32))) + (ushr (((x0 - ((ushr x0 1) &&& (1431655765 : Int32))) &&& (858993459 : Int32)) + ((ushr (x0 - ((ushr x0 1) &&& (1431655765 : Int32))) 2) &&& (858993459 : Int32))) 4)) &&& (252645135 : Int32)) 8)) + (ushr ((((((x0 - ((ushr x0 1) &&& (1431655765 : Int32))) &&& (858993459 : Int32)) + ((ushr (x0 - ((ushr x0 1) &&& (1431655765 : Int32))) 2) &&& (858993459 : Int32))) + (ushr (((x0 - ((ushr x0 1) &&& (1431655765 : Int32))) &&& (858993459 : Int32)) + ((ushr (x0 - ((ushr x0 1) &&& (1431655765 : Int32))) 2) &&& (858993459 : Int32))) 4)) &&& (252645135 : Int32)) + (ushr (((((x0 - ((ushr x0 1) &&& (1431655765 : Int32))) &&& (858993459 : Int32)) + ((ushr (x0 - ((ushr x0 1) &&& (1431655765 : Int32))) 2) &&& (858993459 : Int32))) + (ushr (((x0 - ((ushr x0 1) &&& (1431655765 : Int32))) &&& (858993459 : Int32)) + ((ushr (x0 - ((ushr x0 1) &&& (1431655765 : Int32))) 2) &&& (858993459 : Int32))) 4)) &&& (252645135 : Int32)) 8)) 16)) &&& 63)
theorem f_253 {d : Nat} (hd : 1 ≤ d) {scr : ASc} {res : ARe} {c n : Nat} {H : AHp} {x0 : Int32} {o : Int32} (hr : F_253 x0 = some o) (kr : res = (.inl (some (.int o)), H, c, n)) : Ex d am_M253 scr (0, [some (.int x0)], [], H, c, n) res := by
  delta F_253 at hr
  refine x_b 41 (S2 := (52, [some (.int (((((((x0 - ((ushr x0 1) &&& (1431655765 : Int32))) &&& (858993459 : Int32)) + ((ushr (x0 - ((ushr x0 1) &&& (1431655765 : Int32))) 2) &&& (858993459 : Int32))) + (ushr (((x0 - ((ushr x0 1) &&& (1431655765 : Int32))) &&& (858993459 : Int32)) + ((ushr (x0 - ((ushr x0 1) &&& (1431655765 : Int32))) 2) &&& (858993459 : Int32))) 4)) &&& (252645135 : Int32)) + (ushr (((((x0 - ((ushr x0 1) &&& (1431655765 : Int32))) &&& (858993459 : Int32)) + ((ushr (x0 - ((ushr x0 1) &&& (1431655765 : Int32))) 2) &&& (858993459 : Int32))) + (ushr (((x0 - ((ushr x0 1) &&& (1431655765 : Int32))) &&& (858993459 : Int32)) + ((ushr (x0 - ((ushr x0 1) &&& (1431655765 : Int32))) 2) &&& (858993459 : Int32))) 4)) &&& (252645135 : Int32)) 8)) + (ushr ((((((x0 - ((ushr x0 1) &&& (1431655765 : Int32))) &&& (858993459 : Int32)) + ((ushr (x0 - ((ushr x0 1) &&& (1431655765 : Int32))) 2) &&& (858993459 : Int32))) + (ushr (((x0 - ((ushr x0 1) &&& (1431655765 : Int32))) &&& (858993459 : Int32)) + ((ushr (x0 - ((ushr x0 1) &&& (1431655765 : Int32))) 2) &&& (858993459 : Int32))) 4)) &&& (252645135 : Int32)) + (ushr (((((x0 - ((ushr x0 1) &&& (1431655765 : Int32))) &&& (858993459 : Int32)) + ((ushr (x0 - ((ushr x0 1) &&& (1431655765 : Int32))) 2) &&& (858993459 : Int32))) + (ushr (((x0 - ((ushr x0 1) &&& (1431655765 : Int32))) &&& (858993459 : Int32)) + ((ushr (x0 - ((ushr x0 1) &&& (1431655765 : Int32))) 2) &&& (858993459 : Int32))) 4)) &&& (252645135 : Int32)) 8)) 16)))], [.int ((((((((x0 - ((ushr x0 1) &&& (1431655765 : Int32))) &&& (858993459 : Int32)) + ((ushr (x0 - ((ushr x0 1) &&& (1431655765 : Int32))) 2) &&& (858993459 : Int32))) + (ushr (((x0 - ((ushr x0 1) &&& (1431655765 : Int32))) &&& (858993459 : Int32)) + ((ushr (x0 - ((ushr x0 1) &&& (1431655765 : Int32))) 2) &&& (858993459 : Int32))) 4)) &&& (252645135 : Int32)) + (ushr (((((x0 - ((ushr x0 1) &&& (1431655765 : Int32))) &&& (858993459 : Int32)) + ((ushr (x0 - ((ushr x0 1) &&& (1431655765 : Int32))) 2) &&& (858993459 : Int32))) + (ushr (((x0 - ((ushr x0 1) &&& (1431655765 : Int32))) &&& (858993459 : Int32)) + ((ushr (x0 - ((ushr x0 1) &&& (1431655765 : Int32))) 2) &&& (858993459 : Int32))) 4)) &&& (252645135 : Int32)) 8)) + (ushr ((((((x0 - ((ushr x0 1) &&& (1431655765 : Int32))) &&& (858993459 : Int32)) + ((ushr (x0 - ((ushr x0 1) &&& (1431655765 : Int32))) 2) &&& (858993459 : Int32))) + (ushr (((x0 - ((ushr x0 1) &&& (1431655765 : Int32))) &&& (858993459 : Int32)) + ((ushr (x0 - ((ushr x0 1) &&& (1431655765 : Int32))) 2) &&& (858993459 : Int32))) 4)) &&& (252645135 : Int32)) + (ushr (((((x0 - ((ushr x0 1) &&& (1431655765 : Int32))) &&& (858993459 : Int32)) + ((ushr (x0 - ((ushr x0 1) &&& (1431655765 : Int32))) 2) &&& (858993459 : Int32))) + (ushr (((x0 - ((ushr x0 1) &&& (1431655765 : Int32))) &&& (858993459 : Int32)) + ((ushr (x0 - ((ushr x0 1) &&& (1431655765 : Int32))) 2) &&& (858993459 : Int32))) 4)) &&& (252645135 : Int32)) 8)) 16)) &&& 63)], H, c, n)) rfl ?_
  cases hr
  rw [kr]
  exact x_ret rfl rfl am_ret_i
theorem m_253 {scr : ASc} {H : AHp} {x0 : Int32} {o : Int32} (hr : F_253 x0 = some o) : Rn scr 2 253 [.int x0] H (.inl (some (.int o)), H, 0, 0) :=
  x_meth (M := am_M253) rfl (show 1 ≤ 1 by decide) (f_253 (Nat.le_refl _) hr rfl)
abbrev P_10_5 (H : AHp) (b : Nat) (c n : Nat) (B : Bd) (x1 : Int64) (s : Int32 × Int32) : ASt := (5, [some (.ref b), some (.long x1), none, some (.int s.1), some (.int s.2), none], [], H, c, n)
abbrev PX_10_5 (H : AHp) (b : Nat) (c n : Nat) (B : Bd) (x1 : Int64) (s : Int32) : ASt := (56, [some (.ref b), none, none, some (.int s), none, none], [], H, c, n)
abbrev P_10_17 (H : AHp) (b : Nat) (c n : Nat) (B : Bd) (x1 : Int64) (x4 : Int32) (s : Int32 × Int32) : ASt := (17, [some (.ref b), some (.long x1), none, some (.int s.1), some (.int x4), some (.int s.2)], [], H, c, n)
abbrev PX_10_17 (H : AHp) (b : Nat) (c n : Nat) (B : Bd) (x1 : Int64) (x4 : Int32) (s : Int32) : ASt := (50, [some (.ref b), some (.long x1), none, some (.int s), some (.int x4), none], [], H, c, n)
def J_10_17_j44 (B : Bd) (x1 : Int64) (x3 : Int32) (x4 : Int32) (x5 : Int32) : Option ((Int32 × Int32) ⊕ (Int32)) :=
  some (.inl (x3, (x5 + 1)))
theorem j_10_17_j44 {d : Nat} (hd : 2 ≤ d) {scr : ASc} {res : ARe} {c n : Nat} {H : AHp} {b : Nat} {B : Bd} {x1 : Int64} {x3 : Int32} {x4 : Int32} {x5 : Int32} (hR : Rg H b (Bd.cells b B)) {o : (Int32 × Int32) ⊕ (Int32)} (hr : J_10_17_j44 B x1 x3 x4 x5 = some o) (ka : ∀ s, o = .inl s → Ex d am_M10 scr (P_10_17 H b c n B x1 x4 s) res) (kx : ∀ s, o = .inr s → Ex d am_M10 scr (PX_10_17 H b c n B x1 x4 s) res) : Ex d am_M10 scr (44, [some (.ref b), some (.long x1), none, some (.int x3), some (.int x4), some (.int x5)], [], H, c, n) res := by
  delta J_10_17_j44 at hr
  refine x_b 2 (S2 := (17, [some (.ref b), some (.long x1), none, some (.int x3), some (.int x4), some (.int (x5 + 1))], [], H, c, n)) rfl ?_
  refine x_fg (Lq.s (Lq.s (Lq.s (Lq.s (Lq.s (Lq.s Lq.nil)))))) ?_
  exact ka (x3, (x5 + 1)) (Option.some.inj hr).symm
def G_10_17 (B : Bd) (x1 : Int64) (x4 : Int32) (s : Int32 × Int32) : Option ((Int32 × Int32) ⊕ (Int32)) := 
  match s with
  | (x3, x5) =>
    if B.vertices ≤ x5 then
      some (.inr x3)
    else
      if ((x3 >>> (x5 &&& 31)) &&& 1) = 0 then
        J_10_17_j44 B x1 x3 x4 x5
      else
        (F_8 x1 x5).bind fun v5 =>
        J_10_17_j44 B x1 (x3 ||| v5) x4 x5
theorem g_10_17 {d : Nat} (hd : 2 ≤ d) {scr : ASc} {res : ARe} {c n : Nat} {H : AHp} {b : Nat} {B : Bd} {x1 : Int64} {x4 : Int32} (hR : Rg H b (Bd.cells b B)) {s : Int32 × Int32} {o : (Int32 × Int32) ⊕ (Int32)} (hr : G_10_17 B x1 x4 s = some o) (ka : ∀ s, o = .inl s → Ex d am_M10 scr (P_10_17 H b c n B x1 x4 s) res) (kx : ∀ s, o = .inr s → Ex d am_M10 scr (PX_10_17 H b c n B x1 x4 s) res) : Ex d am_M10 scr (P_10_17 H b c n B x1 x4 s) res := by
  obtain ⟨x3, x5⟩ := s
  delta G_10_17 at hr
  show Ex d am_M10 scr (17, [some (.ref b), some (.long x1), none, some (.int x3), some (.int x4), some (.int x5)], [], H, c, n) res
  refine x_b 1 (S2 := (19, [some (.ref b), some (.long x1), none, some (.int x3), some (.int x4), some (.int x5)], [.int x5], H, c, n)) rfl ?_
  refine x_ldan rfl rfl rfl (hR.lt (i := 0) (show 0 < 6 by decide)) ?_
  refine x_getf rfl rfl (hR.lt (i := 0) (show 0 < 6 by decide)) (hR.at (i := 0) rfl) rfl ?_
  rcases ite_some hr with ⟨h2, hr⟩ | ⟨h2, hr⟩
  · refine x_ct rfl rfl (decide_eq_true h2) ?_
    refine x_fg (Lq.s (Lq.s (Lq.s (Lq.s (Lq.s (Lq.n Lq.nil)))))) ?_
    exact kx x3 (Option.some.inj hr).symm
  · refine x_cf rfl rfl (decide_eq_false h2) ?_
    refine x_b 5 (S2 := (32, [some (.ref b), some (.long x1), none, some (.int x3), some (.int x4), some (.int x5)], [.int ((x3 >>> (x5 &&& 31)) &&& 1)], H, c, n)) rfl ?_
    rcases ite_some hr with ⟨h3, hr⟩ | ⟨h3, hr⟩
    · refine x_zt rfl rfl (decide_eq_true h3) ?_
      refine x_fg (Lq.s (Lq.s (Lq.s (Lq.s (Lq.s (Lq.s Lq.nil)))))) ?_
      exact j_10_17_j44 hd hR hr ka kx
    · refine x_zf rfl rfl (decide_eq_false h3) ?_
      refine x_b 3 (S2 := (39, [some (.ref b), some (.long x1), none, some (.int x3), some (.int x4), some (.int x5)], [.int x5, .long x1, .int x3], H, c, n)) rfl ?_
      obtain ⟨v5, h4, hr⟩ := bd_some hr
      refine x_c0 (m_8 h4) rfl rfl rfl rfl rfl (by omega) ?_
      refine x_b 2 (S2 := (44, [some (.ref b), some (.long x1), none, some (.int (x3 ||| v5)), some (.int x4), some (.int x5)], [], H, c, n)) rfl ?_
      refine x_fg (Lq.s (Lq.s (Lq.s (Lq.s (Lq.s (Lq.s Lq.nil)))))) ?_
      exact j_10_17_j44 hd hR hr ka kx
def G_10_5 (B : Bd) (x1 : Int64) (s : Int32 × Int32) : Option ((Int32 × Int32) ⊕ (Int32)) := 
  match s with
  | (x3, x4) =>
    if B.vertices ≤ x4 then
      some (.inr x3)
    else
      (lw (G_10_17 B x1 x4) 200000 (x3, 0)).bind fun v7 =>
      some (.inl (v7, (x4 + 1)))
theorem g_10_5 {d : Nat} (hd : 2 ≤ d) {scr : ASc} {res : ARe} {c n : Nat} {H : AHp} {b : Nat} {B : Bd} {x1 : Int64} (hR : Rg H b (Bd.cells b B)) {s : Int32 × Int32} {o : (Int32 × Int32) ⊕ (Int32)} (hr : G_10_5 B x1 s = some o) (ka : ∀ s, o = .inl s → Ex d am_M10 scr (P_10_5 H b c n B x1 s) res) (kx : ∀ s, o = .inr s → Ex d am_M10 scr (PX_10_5 H b c n B x1 s) res) : Ex d am_M10 scr (P_10_5 H b c n B x1 s) res := by
  obtain ⟨x3, x4⟩ := s
  delta G_10_5 at hr
  show Ex d am_M10 scr (5, [some (.ref b), some (.long x1), none, some (.int x3), some (.int x4), none], [], H, c, n) res
  refine x_b 1 (S2 := (7, [some (.ref b), some (.long x1), none, some (.int x3), some (.int x4), none], [.int x4], H, c, n)) rfl ?_
  refine x_ldan rfl rfl rfl (hR.lt (i := 0) (show 0 < 6 by decide)) ?_
  refine x_getf rfl rfl (hR.lt (i := 0) (show 0 < 6 by decide)) (hR.at (i := 0) rfl) rfl ?_
  rcases ite_some hr with ⟨h1, hr⟩ | ⟨h1, hr⟩
  · refine x_ct rfl rfl (decide_eq_true h1) ?_
    refine x_fg (Lq.s (Lq.n (Lq.s (Lq.s (Lq.n (Lq.s Lq.nil)))))) ?_
    exact kx x3 (Option.some.inj hr).symm
  · refine x_cf rfl rfl (decide_eq_false h1) ?_
    refine x_b 2 (S2 := (17, [some (.ref b), some (.long x1), none, some (.int x3), some (.int x4), some (.int 0)], [], H, c, n)) rfl ?_
    refine x_fg (Lq.s (Lq.s (Lq.s (Lq.s (Lq.s (Lq.s Lq.nil)))))) ?_
    obtain ⟨v7, h6, hr⟩ := bd_some hr
    refine x_lw (P := P_10_17 H b c n B x1 x4) (Q := fun x => Ex d am_M10 scr (PX_10_17 H b c n B x1 x4 x) res) (fun s o h1 ka kx => g_10_17 hd hR h1 ka kx) _ (x3, 0) _ h6 ?_
    show Ex d am_M10 scr (50, [some (.ref b), some (.long x1), none, some (.int v7), some (.int x4), none], [], H, c, n) res
    refine x_b 2 (S2 := (5, [some (.ref b), some (.long x1), none, some (.int v7), some (.int (x4 + 1)), none], [], H, c, n)) rfl ?_
    refine x_fg (Lq.s (Lq.s (Lq.s (Lq.s (Lq.s (Lq.s Lq.nil)))))) ?_
    exact ka (v7, (x4 + 1)) (Option.some.inj hr).symm
def J_10_0_j72 (B : Bd) (t0 : Int32) : Option (Int32) :=
  if t0 = 0 ∨ t0 = 1 then some t0 else none
theorem j_10_0_j72 {d : Nat} (hd : 2 ≤ d) {scr : ASc} {res : ARe} {c n : Nat} {H : AHp} {b : Nat} {B : Bd} {t0 : Int32} (hR : Rg H b (Bd.cells b B)) {o : Int32} (hr : J_10_0_j72 B t0 = some o) (kr : res = (.inl (some (.int o)), H, c, n)) : Ex d am_M10 scr (72, [none, none, none, none, none, none], [.int t0], H, c, n) res := by
  delta J_10_0_j72 at hr
  obtain ⟨h15, hr⟩ := itn_some hr
  cases hr
  rw [kr]
  exact x_ret rfl rfl (am_ret_z h15)
/-- PebbleProofs$Board.isConnectedBy(J)Z -/
def F_10 (B : Bd) (x1 : Int64) : Option (Int32) :=
  (lw (G_10_5 B x1) 200000 (1, 1)).bind fun v10 =>
  (F_253 v10).bind fun v13 =>
  if ¬ v13 = B.vertices then
    J_10_0_j72 B 0
  else
    J_10_0_j72 B 1
theorem f_10 {d : Nat} (hd : 2 ≤ d) {scr : ASc} {res : ARe} {c n : Nat} {H : AHp} {b : Nat} {B : Bd} {x1 : Int64} (hR : Rg H b (Bd.cells b B)) {o : Int32} (hr : F_10 B x1 = some o) (kr : res = (.inl (some (.int o)), H, c, n)) : Ex d am_M10 scr (0, [some (.ref b), some (.long x1), none, none, none, none], [], H, c, n) res := by
  delta F_10 at hr
  refine x_b 4 (S2 := (5, [some (.ref b), some (.long x1), none, some (.int 1), some (.int 1), none], [], H, c, n)) rfl ?_
  refine x_fg (Lq.s (Lq.s (Lq.s (Lq.s (Lq.s (Lq.s Lq.nil)))))) ?_
  obtain ⟨v10, h9, hr⟩ := bd_some hr
  refine x_lw (P := P_10_5 H b c n B x1) (Q := fun x => Ex d am_M10 scr (PX_10_5 H b c n B x1 x) res) (fun s o h1 ka kx => g_10_5 hd hR h1 ka kx) _ (1, 1) _ h9 ?_
  show Ex d am_M10 scr (56, [some (.ref b), none, none, some (.int v10), none, none], [], H, c, n) res
  refine x_b 1 (S2 := (57, [some (.ref b), none, none, some (.int v10), none, none], [.int v10], H, c, n)) rfl ?_
  obtain ⟨v13, h12, hr⟩ := bd_some hr
  refine x_c0 (m_253 h12) rfl rfl rfl rfl rfl (by omega) ?_
  refine x_ldan rfl rfl rfl (hR.lt (i := 0) (show 0 < 6 by decide)) ?_
  refine x_getf rfl rfl (hR.lt (i := 0) (show 0 < 6 by decide)) (hR.at (i := 0) rfl) rfl ?_
  rcases ite_some hr with ⟨h14, hr⟩ | ⟨h14, hr⟩
  · refine x_ct rfl rfl (decide_eq_true h14) ?_
    refine x_b 1 (S2 := (72, [some (.ref b), none, none, some (.int v10), none, none], [.int 0], H, c, n)) rfl ?_
    refine x_fg (Lq.n (Lq.s (Lq.s (Lq.n (Lq.s (Lq.s Lq.nil)))))) ?_
    exact j_10_0_j72 hd hR hr kr
  · refine x_cf rfl rfl (decide_eq_false h14) ?_
    refine x_b 2 (S2 := (72, [some (.ref b), none, none, some (.int v10), none, none], [.int 1], H, c, n)) rfl ?_
    refine x_fg (Lq.n (Lq.s (Lq.s (Lq.n (Lq.s (Lq.s Lq.nil)))))) ?_
    exact j_10_0_j72 hd hR hr kr
theorem m_10 {scr : ASc} {H : AHp} {b : Nat} {B : Bd} {x1 : Int64} (hR : Rg H b (Bd.cells b B)) {o : Int32} (hr : F_10 B x1 = some o) : Rn scr 3 10 [.ref b, .long x1] H (.inl (some (.int o)), H, 0, 0) :=
  x_meth (M := am_M10) rfl (show 3 ≤ 6 by decide) (f_10 (Nat.le_refl _) hR hr rfl)
/-- PebbleProofs$Board.isConnected()Z -/
def F_11 (B : Bd) : Option (Int32) :=
  (F_10 B B.edges).bind fun v2 =>
  if v2 = 0 ∨ v2 = 1 then some v2 else none
theorem f_11 {d : Nat} (hd : 3 ≤ d) {scr : ASc} {res : ARe} {c n : Nat} {H : AHp} {b : Nat} {B : Bd} (hR : Rg H b (Bd.cells b B)) {o : Int32} (hr : F_11 B = some o) (kr : res = (.inl (some (.int o)), H, c, n)) : Ex d am_M11 scr (0, [some (.ref b)], [], H, c, n) res := by
  delta F_11 at hr
  refine x_ldan rfl rfl rfl (hR.lt (i := 0) (show 0 < 6 by decide)) ?_
  refine x_ldan rfl rfl rfl (hR.lt (i := 0) (show 0 < 6 by decide)) ?_
  refine x_getf rfl rfl (hR.lt (i := 0) (show 0 < 6 by decide)) (hR.at (i := 0) rfl) rfl ?_
  obtain ⟨v2, h1, hr⟩ := bd_some hr
  refine x_c0 (m_10 hR h1) rfl rfl rfl rfl (am_recv_v (hR.lt (i := 0) (show 0 < 6 by decide)) (hR.at (i := 0) rfl) rfl) (by omega) ?_
  obtain ⟨h3, hr⟩ := itn_some hr
  cases hr
  rw [kr]
  exact x_ret rfl rfl (am_ret_z h3)
theorem m_11 {scr : ASc} {H : AHp} {b : Nat} {B : Bd} (hR : Rg H b (Bd.cells b B)) {o : Int32} (hr : F_11 B = some o) : Rn scr 4 11 [.ref b] H (.inl (some (.int o)), H, 0, 0) :=
  x_meth (M := am_M11) rfl (show 1 ≤ 1 by decide) (f_11 (Nat.le_refl _) hR hr rfl)
/-- PebbleProofs$Board.isConnectedWithout(II)Z -/
def F_12 (B : Bd) (x1 : Int32) (x2 : Int32) : Option (Int32) :=
  (F_3 x1 x2).bind fun v2 =>
  (F_10 B (B.edges &&& (v2 ^^^ (18446744073709551615 : Int64)))).bind fun v4 =>
  if v4 = 0 ∨ v4 = 1 then some v4 else none
theorem f_12 {d : Nat} (hd : 3 ≤ d) {scr : ASc} {res : ARe} {c n : Nat} {H : AHp} {b : Nat} {B : Bd} {x1 : Int32} {x2 : Int32} (hR : Rg H b (Bd.cells b B)) {o : Int32} (hr : F_12 B x1 x2 = some o) (kr : res = (.inl (some (.int o)), H, c, n)) : Ex d am_M12 scr (0, [some (.ref b), some (.int x1), some (.int x2)], [], H, c, n) res := by
  delta F_12 at hr
  refine x_ldan rfl rfl rfl (hR.lt (i := 0) (show 0 < 6 by decide)) ?_
  refine x_ldan rfl rfl rfl (hR.lt (i := 0) (show 0 < 6 by decide)) ?_
  refine x_getf rfl rfl (hR.lt (i := 0) (show 0 < 6 by decide)) (hR.at (i := 0) rfl) rfl ?_
  refine x_b 2 (S2 := (7, [some (.ref b), some (.int x1), some (.int x2)], [.int x2, .int x1, .long B.edges, .ref b], H, c, n)) rfl ?_
  obtain ⟨v2, h1, hr⟩ := bd_some hr
  refine x_c0 (m_3 h1) rfl rfl rfl rfl rfl (by omega) ?_
  refine x_b 3 (S2 := (15, [some (.ref b), some (.int x1), some (.int x2)], [.long (B.edges &&& (v2 ^^^ (18446744073709551615 : Int64))), .ref b], H, c, n)) rfl ?_
  obtain ⟨v4, h3, hr⟩ := bd_some hr
  refine x_c0 (m_10 hR h3) rfl rfl rfl rfl (am_recv_v (hR.lt (i := 0) (show 0 < 6 by decide)) (hR.at (i := 0) rfl) rfl) (by omega) ?_
  obtain ⟨h5, hr⟩ := itn_some hr
  cases hr
  rw [kr]
  exact x_ret rfl rfl (am_ret_z h5)
theorem m_12 {scr : ASc} {H : AHp} {b : Nat} {B : Bd} {x1 : Int32} {x2 : Int32} (hR : Rg H b (Bd.cells b B)) {o : Int32} (hr : F_12 B x1 x2 = some o) : Rn scr 4 12 [.ref b, .int x1, .int x2] H (.inl (some (.int o)), H, 0, 0) :=
  x_meth (M := am_M12) rfl (show 3 ≤ 3 by decide) (f_12 (Nat.le_refl _) hR hr rfl)
abbrev P_14_9 (h : AHp) (b : Nat) (c n : Nat) (x1 : Int32) (s : Int32 × Int32 × Int32 × (Bd)) : ASt := (9, [some (.ref b), some (.int x1), some (.int s.1), some (.int s.2.1), some (.int s.2.2.1), none, none], [], (hput h b (Bd.cells b s.2.2.2)), c, n)
abbrev PX_14_9 (h : AHp) (b : Nat) (c n : Nat) (x1 : Int32) (s : (Bd)) : ASt := (90, [none, none, none, none, none, none, none], [], (hput h b (Bd.cells b s)), c, n)
abbrev P_14_28 (h : AHp) (b : Nat) (c n : Nat) (x1 : Int32) (x2 : Int32) (x3 : Int32) (x4 : Int32) (s : Int32 × Int32 × (Bd)) : ASt := (28, [some (.ref b), some (.int x1), some (.int x2), some (.int x3), some (.int x4), some (.int s.1), some (.int s.2.1)], [], (hput h b (Bd.cells b s.2.2)), c, n)
abbrev PX_14_28 (h : AHp) (b : Nat) (c n : Nat) (x1 : Int32) (x2 : Int32) (x3 : Int32) (x4 : Int32) (s : Int32 × (Bd)) : ASt := (77, [some (.ref b), some (.int x1), some (.int x2), none, some (.int x4), some (.int s.1), none], [], (hput h b (Bd.cells b s.2)), c, n)
def J_14_28_j71 (B : Bd) (x1 : Int32) (x2 : Int32) (x3 : Int32) (x4 : Int32) (x5 : Int32) (x6 : Int32) : Option ((Int32 × Int32 × (Bd)) ⊕ (Int32 × (Bd))) :=
  some (.inl (x5, (x6 + 1), B))
theorem j_14_28_j71 {d : Nat} (hd : 3 ≤ d) {scr : ASc} {res : ARe} {c n : Nat} {h : AHp} {b : Nat} (hb : b + 6 ≤ am_SB) (hh : b + 6 ≤ h.length) {B : Bd} {x1 : Int32} {x2 : Int32} {x3 : Int32} {x4 : Int32} {x5 : Int32} {x6 : Int32} {o : (Int32 × Int32 × (Bd)) ⊕ (Int32 × (Bd))} (hr : J_14_28_j71 B x1 x2 x3 x4 x5 x6 = some o) (ka : ∀ s, o = .inl s → Ex d am_M14 scr (P_14_28 h b c n x1 x2 x3 x4 s) res) (kx : ∀ s, o = .inr s → Ex d am_M14 scr (PX_14_28 h b c n x1 x2 x3 x4 s) res) : Ex d am_M14 scr (71, [some (.ref b), some (.int x1), some (.int x2), some (.int x3), some (.int x4), some (.int x5), some (.int x6)], [], (hput h b (Bd.cells b B)), c, n) res := by
  delta J_14_28_j71 at hr
  refine x_b 2 (S2 := (28, [some (.ref b), some (.int x1), some (.int x2), some (.int x3), some (.int x4), some (.int x5), some (.int (x6 + 1))], [], (hput h b (Bd.cells b B)), c, n)) rfl ?_
  refine x_fg (Lq.s (Lq.s (Lq.s (Lq.s (Lq.s (Lq.s (Lq.s Lq.nil))))))) ?_
  exact ka (x5, (x6 + 1), B) (Option.some.inj hr).symm
def G_14_28 (x1 : Int32) (x2 : Int32) (x3 : Int32) (x4 : Int32) (s : Int32 × Int32 × (Bd)) : Option ((Int32 × Int32 × (Bd)) ⊕ (Int32 × (Bd))) := 
  match s with
  | (x5, x6, B) =>
    if B.vertices ≤ x6 then
      some (.inr (x5, B))
    else
      if ((x3 >>> (x6 &&& 31)) &&& 1) = 0 then
        J_14_28_j71 B x1 x2 x3 x4 x5 x6
      else
        (ix ((6 * x1) + x6) 36).bind fun i4 =>
        (some (B.w_distances (upd B.distances i4 x4))).bind fun B6 =>
        (F_9 B6 x6).bind fun v9 =>
        J_14_28_j71 B6 x1 x2 x3 x4 (x5 ||| v9) x6
theorem g_14_28 {d : Nat} (hd : 3 ≤ d) {scr : ASc} {res : ARe} {c n : Nat} {h : AHp} {b : Nat} (hb : b + 6 ≤ am_SB) (hh : b + 6 ≤ h.length) {x1 : Int32} {x2 : Int32} {x3 : Int32} {x4 : Int32} {s : Int32 × Int32 × (Bd)} {o : (Int32 × Int32 × (Bd)) ⊕ (Int32 × (Bd))} (hr : G_14_28 x1 x2 x3 x4 s = some o) (ka : ∀ s, o = .inl s → Ex d am_M14 scr (P_14_28 h b c n x1 x2 x3 x4 s) res) (kx : ∀ s, o = .inr s → Ex d am_M14 scr (PX_14_28 h b c n x1 x2 x3 x4 s) res) : Ex d am_M14 scr (P_14_28 h b c n x1 x2 x3 x4 s) res := by
  obtain ⟨x5, x6, B⟩ := s
  delta G_14_28 at hr
  show Ex d am_M14 scr (28, [some (.ref b), some (.int x1), some (.int x2), some (.int x3), some (.int x4), some (.int x5), some (.int x6)], [], (hput h b (Bd.cells b B)), c, n) res
  refine x_b 1 (S2 := (30, [some (.ref b), some (.int x1), some (.int x2), some (.int x3), some (.int x4), some (.int x5), some (.int x6)], [.int x6], (hput h b (Bd.cells b B)), c, n)) rfl ?_
  refine x_ldan rfl rfl rfl (h_lt (i := 0) hb (by decide)) ?_
  refine x_getf rfl rfl (h_lt (i := 0) hb (by decide)) (hp_at (i := 0) hh rfl rfl) rfl ?_
  rcases ite_some hr with ⟨h2, hr⟩ | ⟨h2, hr⟩
  · refine x_ct rfl rfl (decide_eq_true h2) ?_
    refine x_fg (Lq.s (Lq.s (Lq.s (Lq.n (Lq.s (Lq.s (Lq.n Lq.nil))))))) ?_
    exact kx (x5, B) (Option.some.inj hr).symm
  · refine x_cf rfl rfl (decide_eq_false h2) ?_
    refine x_b 5 (S2 := (43, [some (.ref b), some (.int x1), some (.int x2), some (.int x3), some (.int x4), some (.int x5), some (.int x6)], [.int ((x3 >>> (x6 &&& 31)) &&& 1)], (hput h b (Bd.cells b B)), c, n)) rfl ?_
    rcases ite_some hr with ⟨h3, hr⟩ | ⟨h3, hr⟩
    · refine x_zt rfl rfl (decide_eq_true h3) ?_
      refine x_fg (Lq.s (Lq.s (Lq.s (Lq.s (Lq.s (Lq.s (Lq.s Lq.nil))))))) ?_
      exact j_14_28_j71 hd hb hh hr ka kx
    · refine x_zf rfl rfl (decide_eq_false h3) ?_
      refine x_ldan rfl rfl rfl (h_lt (i := 0) hb (by decide)) ?_
      refine x_getf rfl rfl (h_lt (i := 0) hb (by decide)) (hp_at (i := 0) hh rfl rfl) rfl ?_
      refine x_b 6 (S2 := (59, [some (.ref b), some (.int x1), some (.int x2), some (.int x3), some (.int x4), some (.int x5), some (.int x6)], [.int x4, .int ((6 * x1) + x6), .ref (b + 2)], (hput h b (Bd.cells b B)), c, n)) rfl ?_
      obtain ⟨i4, h5, hr⟩ := bd_some hr
      obtain ⟨B6, h7, hr⟩ := bd_some hr
      refine x_iast (H := (hput h b (Bd.cells b B6))) rfl rfl (h_lt (i := 2) hb (by decide)) (hp_at (i := 2) hh rfl rfl) h5 (hp_set (i := 2) hh rfl (by decide) (Bd.s_distances h7)) ?_
      refine x_b 1 (S2 := (62, [some (.ref b), some (.int x1), some (.int x2), some (.int x3), some (.int x4), some (.int x5), some (.int x6)], [.int x5], (hput h b (Bd.cells b B6)), c, n)) rfl ?_
      refine x_ldan rfl rfl rfl (h_lt (i := 0) hb (by decide)) ?_
      refine x_b 1 (S2 := (65, [some (.ref b), some (.int x1), some (.int x2), some (.int x3), some (.int x4), some (.int x5), some (.int x6)], [.int x6, .ref b, .int x5], (hput h b (Bd.cells b B6)), c, n)) rfl ?_
      obtain ⟨v9, h8, hr⟩ := bd_some hr
      refine x_c0 (m_9 (hp_rg hb hh rfl) h8) rfl rfl rfl rfl (am_recv_v (h_lt (i := 0) hb (by decide)) (hp_at (i := 0) hh rfl rfl) rfl) (by omega) ?_
      refine x_b 2 (S2 := (71, [some (.ref b), some (.int x1), some (.int x2), some (.int x3), some (.int x4), some (.int (x5 ||| v9)), some (.int x6)], [], (hput h b (Bd.cells b B6)), c, n)) rfl ?_
      refine x_fg (Lq.s (Lq.s (Lq.s (Lq.s (Lq.s (Lq.s (Lq.s Lq.nil))))))) ?_
      exact j_14_28_j71 hd hb hh hr ka kx
def G_14_9 (x1 : Int32) (s : Int32 × Int32 × Int32 × (Bd)) : Option ((Int32 × Int32 × Int32 × (Bd)) ⊕ ((Bd))) := 
  match s with
  | (x2, x3, x4, B) =>
    if B.vertices ≤ x4 then
      some (.inr B)
    else
      (lw (G_14_28 x1 (x2 ||| x3) x3 x4) 200000 (0, 0, B)).bind fun (v11, B12) =>
      some (.inl ((x2 ||| x3), (v11 &&& ((x2 ||| x3) ^^^ (-1))), (x4 + 1), B12))
theorem g_14_9 {d : Nat} (hd : 3 ≤ d) {scr : ASc} {res : ARe} {c n : Nat} {h : AHp} {b : Nat} (hb : b + 6 ≤ am_SB) (hh : b + 6 ≤ h.length) {x1 : Int32} {s : Int32 × Int32 × Int32 × (Bd)} {o : (Int32 × Int32 × Int32 × (Bd)) ⊕ ((Bd))} (hr : G_14_9 x1 s = some o) (ka : ∀ s, o = .inl s → Ex d am_M14 scr (P_14_9 h b c n x1 s) res) (kx : ∀ s, o = .inr s → Ex d am_M14 scr (PX_14_9 h b c n x1 s) res) : Ex d am_M14 scr (P_14_9 h b c n x1 s) res := by
  obtain ⟨x2, x3, x4, B⟩ := s
  delta G_14_9 at hr
  show Ex d am_M14 scr (9, [some (.ref b), some (.int x1), some (.int x2), some (.int x3), some (.int x4), none, none], [], (hput h b (Bd.cells b B)), c, n) res
  refine x_b 1 (S2 := (11, [some (.ref b), some (.int x1), some (.int x2), some (.int x3), some (.int x4), none, none], [.int x4], (hput h b (Bd.cells b B)), c, n)) rfl ?_
  refine x_ldan rfl rfl rfl (h_lt (i := 0) hb (by decide)) ?_
  refine x_getf rfl rfl (h_lt (i := 0) hb (by decide)) (hp_at (i := 0) hh rfl rfl) rfl ?_
  rcases ite_some hr with ⟨h1, hr⟩ | ⟨h1, hr⟩
  · refine x_ct rfl rfl (decide_eq_true h1) ?_
    refine x_fg (Lq.n (Lq.n (Lq.n (Lq.n (Lq.n (Lq.s (Lq.s Lq.nil))))))) ?_
    exact kx B (Option.some.inj hr).symm
  · refine x_cf rfl rfl (decide_eq_false h1) ?_
    refine x_b 8 (S2 := (28, [some (.ref b), some (.int x1), some (.int (x2 ||| x3)), some (.int x3), some (.int x4), some (.int 0), some (.int 0)], [], (hput h b (Bd.cells b B)), c, n)) rfl ?_
    refine x_fg (Lq.s (Lq.s (Lq.s (Lq.s (Lq.s (Lq.s (Lq.s Lq.nil))))))) ?_
    obtain ⟨o13, h10, hr⟩ := bd_some hr
    refine x_lw (P := P_14_28 h b c n x1 (x2 ||| x3) x3 x4) (Q := fun x => Ex d am_M14 scr (PX_14_28 h b c n x1 (x2 ||| x3) x3 x4 x) res) (fun s o h1 ka kx => g_14_28 hd hb hh h1 ka kx) _ (0, 0, B) _ h10 ?_
    obtain ⟨v11, B12⟩ := o13
    show Ex d am_M14 scr (77, [some (.ref b), some (.int x1), some (.int (x2 ||| x3)), none, some (.int x4), some (.int v11), none], [], (hput h b (Bd.cells b B12)), c, n) res
    refine x_b 8 (S2 := (9, [some (.ref b), some (.int x1), some (.int (x2 ||| x3)), some (.int (v11 &&& ((x2 ||| x3) ^^^ (-1)))), some (.int (x4 + 1)), some (.int v11), none], [], (hput h b (Bd.cells b B12)), c, n)) rfl ?_
    refine x_fg (Lq.s (Lq.s (Lq.s (Lq.s (Lq.s (Lq.n (Lq.s Lq.nil))))))) ?_
    exact ka ((x2 ||| x3), (v11 &&& ((x2 ||| x3) ^^^ (-1))), (x4 + 1), B12) (Option.some.inj hr).symm
/-- PebbleProofs$Board.measureFrom(I)V -/
def F_14 (B : Bd) (x1 : Int32) : Option (Bd) :=
  (lw (G_14_9 x1) 200000 (0, (1 <<< (x1 &&& 31)), 0, B)).bind fun B15 =>
  some B15
theorem f_14 {d : Nat} (hd : 3 ≤ d) {scr : ASc} {res : ARe} {c n : Nat} {h : AHp} {b : Nat} (hb : b + 6 ≤ am_SB) (hh : b + 6 ≤ h.length) {B : Bd} {x1 : Int32} {o : Bd} (hr : F_14 B x1 = some o) (kr : res = (.inl (none), hput h b (Bd.cells b o), c, n)) : Ex d am_M14 scr (0, [some (.ref b), some (.int x1), none, none, none, none, none], [], (hput h b (Bd.cells b B)), c, n) res := by
  delta F_14 at hr
  refine x_b 8 (S2 := (9, [some (.ref b), some (.int x1), some (.int 0), some (.int (1 <<< (x1 &&& 31))), some (.int 0), none, none], [], (hput h b (Bd.cells b B)), c, n)) rfl ?_
  refine x_fg (Lq.s (Lq.s (Lq.s (Lq.s (Lq.s (Lq.s (Lq.s Lq.nil))))))) ?_
  obtain ⟨B15, h14, hr⟩ := bd_some hr
  refine x_lw (P := P_14_9 h b c n x1) (Q := fun x => Ex d am_M14 scr (PX_14_9 h b c n x1 x) res) (fun s o h1 ka kx => g_14_9 hd hb hh h1 ka kx) _ (0, (1 <<< (x1 &&& 31)), 0, B) _ h14 ?_
  show Ex d am_M14 scr (90, [none, none, none, none, none, none, none], [], (hput h b (Bd.cells b B15)), c, n) res
  cases hr
  rw [kr]
  exact x_ret rfl rfl rfl
theorem m_14 {scr : ASc} {h : AHp} {b : Nat} (hb : b + 6 ≤ am_SB) (hh : b + 6 ≤ h.length) {B : Bd} {x1 : Int32} {o : Bd} (hr : F_14 B x1 = some o) : Rn scr 4 14 [.ref b, .int x1] (hput h b (Bd.cells b B)) (.inl (none), hput h b (Bd.cells b o), 0, 0) :=
  x_meth (M := am_M14) rfl (show 2 ≤ 7 by decide) (f_14 (Nat.le_refl _) hb hh hr rfl)
abbrev P_13_2 (h : AHp) (b : Nat) (c n : Nat)  (s : Int32 × (Bd)) : ASt := (2, [some (.ref b), some (.int s.1)], [], (hput h b (Bd.cells b s.2)), c, n)
abbrev PX_13_2 (h : AHp) (b : Nat) (c n : Nat)  (s : (Bd)) : ASt := (21, [none, none], [], (hput h b (Bd.cells b s)), c, n)
def G_13_2  (s : Int32 × (Bd)) : Option ((Int32 × (Bd)) ⊕ ((Bd))) := 
  match s with
  | (x1, B) =>
    if B.vertices ≤ x1 then
      some (.inr B)
    else
      (F_14 B x1).bind fun B3 =>
      some (.inl ((x1 + 1), B3))
theorem g_13_2 {d : Nat} (hd : 4 ≤ d) {scr : ASc} {res : ARe} {c n : Nat} {h : AHp} {b : Nat} (hb : b + 6 ≤ am_SB) (hh : b + 6 ≤ h.length)  {s : Int32 × (Bd)} {o : (Int32 × (Bd)) ⊕ ((Bd))} (hr : G_13_2  s = some o) (ka : ∀ s, o = .inl s → Ex d am_M13 scr (P_13_2 h b c n  s) res) (kx : ∀ s, o = .inr s → Ex d am_M13 scr (PX_13_2 h b c n  s) res) : Ex d am_M13 scr (P_13_2 h b c n  s) res := by
  obtain ⟨x1, B⟩ := s
  delta G_13_2 at hr
  show Ex d am_M13 scr (2, [some (.ref b), some (.int x1)], [], (hput h b (Bd.cells b B)), c, n) res
  refine x_b 1 (S2 := (3, [some (.ref b), some (.int x1)], [.int x1], (hput h b (Bd.cells b B)), c, n)) rfl ?_
  refine x_ldan rfl rfl rfl (h_lt (i := 0) hb (by decide)) ?_
  refine x_getf rfl rfl (h_lt (i := 0) hb (by decide)) (hp_at (i := 0) hh rfl rfl) rfl ?_
  rcases ite_some hr with ⟨h1, hr⟩ | ⟨h1, hr⟩
  · refine x_ct rfl rfl (decide_eq_true h1) ?_
    refine x_fg (Lq.n (Lq.n Lq.nil)) ?_
    exact kx B (Option.some.inj hr).symm
  · refine x_cf rfl rfl (decide_eq_false h1) ?_
    refine x_ldan rfl rfl rfl (h_lt (i := 0) hb (by decide)) ?_
    refine x_b 1 (S2 := (12, [some (.ref b), some (.int x1)], [.int x1, .ref b], (hput h b (Bd.cells b B)), c, n)) rfl ?_
    obtain ⟨B3, h2, hr⟩ := bd_some hr
    refine x_c0 (m_14 hb hh h2) rfl rfl rfl rfl (am_recv_v (h_lt (i := 0) hb (by decide)) (hp_at (i := 0) hh rfl rfl) rfl) (by omega) ?_
    refine x_b 2 (S2 := (2, [some (.ref b), some (.int (x1 + 1))], [], (hput h b (Bd.cells b B3)), c, n)) rfl ?_
    refine x_fg (Lq.s (Lq.s Lq.nil)) ?_
    exact ka ((x1 + 1), B3) (Option.some.inj hr).symm
/-- PebbleProofs$Board.measure()V -/
def F_13 (B : Bd) : Option (Bd) :=
  (lw (G_13_2 ) 200000 (0, B)).bind fun B5 =>
  some B5
theorem f_13 {d : Nat} (hd : 4 ≤ d) {scr : ASc} {res : ARe} {c n : Nat} {h : AHp} {b : Nat} (hb : b + 6 ≤ am_SB) (hh : b + 6 ≤ h.length) {B : Bd} {o : Bd} (hr : F_13 B = some o) (kr : res = (.inl (none), hput h b (Bd.cells b o), c, n)) : Ex d am_M13 scr (0, [some (.ref b), none], [], (hput h b (Bd.cells b B)), c, n) res := by
  delta F_13 at hr
  refine x_b 2 (S2 := (2, [some (.ref b), some (.int 0)], [], (hput h b (Bd.cells b B)), c, n)) rfl ?_
  refine x_fg (Lq.s (Lq.s Lq.nil)) ?_
  obtain ⟨B5, h4, hr⟩ := bd_some hr
  refine x_lw (P := P_13_2 h b c n ) (Q := fun x => Ex d am_M13 scr (PX_13_2 h b c n  x) res) (fun s o h1 ka kx => g_13_2 hd hb hh h1 ka kx) _ (0, B) _ h4 ?_
  show Ex d am_M13 scr (21, [none, none], [], (hput h b (Bd.cells b B5)), c, n) res
  cases hr
  rw [kr]
  exact x_ret rfl rfl rfl
theorem m_13 {scr : ASc} {h : AHp} {b : Nat} (hb : b + 6 ≤ am_SB) (hh : b + 6 ≤ h.length) {B : Bd} {o : Bd} (hr : F_13 B = some o) : Rn scr 5 13 [.ref b] (hput h b (Bd.cells b B)) (.inl (none), hput h b (Bd.cells b o), 0, 0) :=
  x_meth (M := am_M13) rfl (show 1 ≤ 2 by decide) (f_13 (Nat.le_refl _) hb hh hr rfl)
/-- PebbleProofs$Board.apart(II)I -/
def F_15 (B : Bd) (x1 : Int32) (x2 : Int32) : Option (Int32) :=
  (ix ((6 * x1) + x2) 36).bind fun i1 =>
  some (B.distances i1)
theorem f_15 {d : Nat} (hd : 1 ≤ d) {scr : ASc} {res : ARe} {c n : Nat} {H : AHp} {b : Nat} {B : Bd} {x1 : Int32} {x2 : Int32} (hR : Rg H b (Bd.cells b B)) {o : Int32} (hr : F_15 B x1 x2 = some o) (kr : res = (.inl (some (.int o)), H, c, n)) : Ex d am_M15 scr (0, [some (.ref b), some (.int x1), some (.int x2)], [], H, c, n) res := by
  delta F_15 at hr
  refine x_ldan rfl rfl rfl (hR.lt (i := 0) (show 0 < 6 by decide)) ?_
  refine x_getf rfl rfl (hR.lt (i := 0) (show 0 < 6 by decide)) (hR.at (i := 0) rfl) rfl ?_
  refine x_b 5 (S2 := (10, [some (.ref b), some (.int x1), some (.int x2)], [.int ((6 * x1) + x2), .ref (b + 2)], H, c, n)) rfl ?_
  obtain ⟨i1, h2, hr⟩ := bd_some hr
  refine x_iald rfl rfl (hR.lt (i := 2) (show 2 < 6 by decide)) (hR.at (i := 2) rfl) h2 ?_
  cases hr
  rw [kr]
  exact x_ret rfl rfl am_ret_i
theorem m_15 {scr : ASc} {H : AHp} {b : Nat} {B : Bd} {x1 : Int32} {x2 : Int32} (hR : Rg H b (Bd.cells b B)) {o : Int32} (hr : F_15 B x1 x2 = some o) : Rn scr 2 15 [.ref b, .int x1, .int x2] H (.inl (some (.int o)), H, 0, 0) :=
  x_meth (M := am_M15) rfl (show 3 ≤ 3 by decide) (f_15 (Nat.le_refl _) hR hr rfl)
abbrev P_18_4 (H : AHp) (b : Nat) (c n : Nat) (B : Bd) (s : Int32 × Int32) : ASt := (4, [some (.ref b), some (.int s.1), some (.int s.2), none], [], H, c, n)
abbrev PX_18_4 (H : AHp) (b : Nat) (c n : Nat) (B : Bd) (s : Int32) : ASt := (42, [none, some (.int s), none, none], [], H, c, n)
abbrev P_18_14 (H : AHp) (b : Nat) (c n : Nat) (B : Bd) (x2 : Int32) (s : Int32 × Int32) : ASt := (14, [some (.ref b), some (.int s.1), some (.int x2), some (.int s.2)], [], H, c, n)
abbrev PX_18_14 (H : AHp) (b : Nat) (c n : Nat) (B : Bd) (x2 : Int32) (s : Int32) : ASt := (36, [some (.ref b), some (.int s), some (.int x2), none], [], H, c, n)
def G_18_14 (B : Bd) (x2 : Int32) (s : Int32 × Int32) : Option ((Int32 × Int32) ⊕ (Int32)) := 
  match s with
  | (x1, x3) =>
    if x2 ≤ x3 then
      some (.inr x1)
    else
      (F_15 B x2 x3).bind fun v4 =>
      some (.inl ((imx x1 v4), (x3 + 1)))
theorem g_18_14 {d : Nat} (hd : 2 ≤ d) {scr : ASc} {res : ARe} {c n : Nat} {H : AHp} {b : Nat} {B : Bd} {x2 : Int32} (hR : Rg H b (Bd.cells b B)) {s : Int32 × Int32} {o : (Int32 × Int32) ⊕ (Int32)} (hr : G_18_14 B x2 s = some o) (ka : ∀ s, o = .inl s → Ex d am_M18 scr (P_18_14 H b c n B x2 s) res) (kx : ∀ s, o = .inr s → Ex d am_M18 scr (PX_18_14 H b c n B x2 s) res) : Ex d am_M18 scr (P_18_14 H b c n B x2 s) res := by
  obtain ⟨x1, x3⟩ := s
  delta G_18_14 at hr
  show Ex d am_M18 scr (14, [some (.ref b), some (.int x1), some (.int x2), some (.int x3)], [], H, c, n) res
  refine x_b 2 (S2 := (16, [some (.ref b), some (.int x1), some (.int x2), some (.int x3)], [.int x2, .int x3], H, c, n)) rfl ?_
  rcases ite_some hr with ⟨h2, hr⟩ | ⟨h2, hr⟩
  · refine x_ct rfl rfl (decide_eq_true h2) ?_
    refine x_fg (Lq.s (Lq.s (Lq.s (Lq.n Lq.nil)))) ?_
    exact kx x1 (Option.some.inj hr).symm
  · refine x_cf rfl rfl (decide_eq_false h2) ?_
    refine x_b 1 (S2 := (20, [some (.ref b), some (.int x1), some (.int x2), some (.int x3)], [.int x1], H, c, n)) rfl ?_
    refine x_ldan rfl rfl rfl (hR.lt (i := 0) (show 0 < 6 by decide)) ?_
    refine x_b 2 (S2 := (23, [some (.ref b), some (.int x1), some (.int x2), some (.int x3)], [.int x3, .int x2, .ref b, .int x1], H, c, n)) rfl ?_
    obtain ⟨v4, h3, hr⟩ := bd_some hr
    refine x_c0 (m_15 hR h3) rfl rfl rfl rfl (am_recv_v (hR.lt (i := 0) (show 0 < 6 by decide)) (hR.at (i := 0) rfl) rfl) (by omega) ?_
    refine x_b 4 (S2 := (14, [some (.ref b), some (.int (imx x1 v4)), some (.int x2), some (.int (x3 + 1))], [], H, c, n)) rfl ?_
    refine x_fg (Lq.s (Lq.s (Lq.s (Lq.s Lq.nil)))) ?_
    exact ka ((imx x1 v4), (x3 + 1)) (Option.some.inj hr).symm
def G_18_4 (B : Bd) (s : Int32 × Int32) : Option ((Int32 × Int32) ⊕ (Int32)) := 
  match s with
  | (x1, x2) =>
    if B.vertices ≤ x2 then
      some (.inr x1)
    else
      (lw (G_18_14 B x2) 200000 (x1, 0)).bind fun v6 =>
      some (.inl (v6, (x2 + 1)))
theorem g_18_4 {d : Nat} (hd : 2 ≤ d) {scr : ASc} {res : ARe} {c n : Nat} {H : AHp} {b : Nat} {B : Bd} (hR : Rg H b (Bd.cells b B)) {s : Int32 × Int32} {o : (Int32 × Int32) ⊕ (Int32)} (hr : G_18_4 B s = some o) (ka : ∀ s, o = .inl s → Ex d am_M18 scr (P_18_4 H b c n B s) res) (kx : ∀ s, o = .inr s → Ex d am_M18 scr (PX_18_4 H b c n B s) res) : Ex d am_M18 scr (P_18_4 H b c n B s) res := by
  obtain ⟨x1, x2⟩ := s
  delta G_18_4 at hr
  show Ex d am_M18 scr (4, [some (.ref b), some (.int x1), some (.int x2), none], [], H, c, n) res
  refine x_b 1 (S2 := (5, [some (.ref b), some (.int x1), some (.int x2), none], [.int x2], H, c, n)) rfl ?_
  refine x_ldan rfl rfl rfl (hR.lt (i := 0) (show 0 < 6 by decide)) ?_
  refine x_getf rfl rfl (hR.lt (i := 0) (show 0 < 6 by decide)) (hR.at (i := 0) rfl) rfl ?_
  rcases ite_some hr with ⟨h1, hr⟩ | ⟨h1, hr⟩
  · refine x_ct rfl rfl (decide_eq_true h1) ?_
    refine x_fg (Lq.n (Lq.s (Lq.n (Lq.s Lq.nil)))) ?_
    exact kx x1 (Option.some.inj hr).symm
  · refine x_cf rfl rfl (decide_eq_false h1) ?_
    refine x_b 2 (S2 := (14, [some (.ref b), some (.int x1), some (.int x2), some (.int 0)], [], H, c, n)) rfl ?_
    refine x_fg (Lq.s (Lq.s (Lq.s (Lq.s Lq.nil)))) ?_
    obtain ⟨v6, h5, hr⟩ := bd_some hr
    refine x_lw (P := P_18_14 H b c n B x2) (Q := fun x => Ex d am_M18 scr (PX_18_14 H b c n B x2 x) res) (fun s o h1 ka kx => g_18_14 hd hR h1 ka kx) _ (x1, 0) _ h5 ?_
    show Ex d am_M18 scr (36, [some (.ref b), some (.int v6), some (.int x2), none], [], H, c, n) res
    refine x_b 2 (S2 := (4, [some (.ref b), some (.int v6), some (.int (x2 + 1)), none], [], H, c, n)) rfl ?_
    refine x_fg (Lq.s (Lq.s (Lq.s (Lq.s Lq.nil)))) ?_
    exact ka (v6, (x2 + 1)) (Option.some.inj hr).symm
/-- PebbleProofs$Board.diameter()I -/
def F_18 (B : Bd) : Option (Int32) :=
  (lw (G_18_4 B) 200000 (0, 0)).bind fun v9 =>
  some v9
theorem f_18 {d : Nat} (hd : 2 ≤ d) {scr : ASc} {res : ARe} {c n : Nat} {H : AHp} {b : Nat} {B : Bd} (hR : Rg H b (Bd.cells b B)) {o : Int32} (hr : F_18 B = some o) (kr : res = (.inl (some (.int o)), H, c, n)) : Ex d am_M18 scr (0, [some (.ref b), none, none, none], [], H, c, n) res := by
  delta F_18 at hr
  refine x_b 4 (S2 := (4, [some (.ref b), some (.int 0), some (.int 0), none], [], H, c, n)) rfl ?_
  refine x_fg (Lq.s (Lq.s (Lq.s (Lq.s Lq.nil)))) ?_
  obtain ⟨v9, h8, hr⟩ := bd_some hr
  refine x_lw (P := P_18_4 H b c n B) (Q := fun x => Ex d am_M18 scr (PX_18_4 H b c n B x) res) (fun s o h1 ka kx => g_18_4 hd hR h1 ka kx) _ (0, 0) _ h8 ?_
  show Ex d am_M18 scr (42, [none, some (.int v9), none, none], [], H, c, n) res
  refine x_b 1 (S2 := (43, [none, some (.int v9), none, none], [.int v9], H, c, n)) rfl ?_
  cases hr
  rw [kr]
  exact x_ret rfl rfl am_ret_i
theorem m_18 {scr : ASc} {H : AHp} {b : Nat} {B : Bd} (hR : Rg H b (Bd.cells b B)) {o : Int32} (hr : F_18 B = some o) : Rn scr 3 18 [.ref b] H (.inl (some (.int o)), H, 0, 0) :=
  x_meth (M := am_M18) rfl (show 1 ≤ 4 by decide) (f_18 (Nat.le_refl _) hR hr rfl)
abbrev P_22_4 (H : AHp) (b : Nat) (c n : Nat) (B : Bd) (s : Int32 × Int32) : ASt := (4, [some (.ref b), some (.int s.1), some (.int s.2)], [], H, c, n)
abbrev PX_22_4 (H : AHp) (b : Nat) (c n : Nat) (B : Bd) (s : Int32) : ASt := (27, [none, some (.int s), none], [], H, c, n)
def G_22_4 (B : Bd) (s : Int32 × Int32) : Option ((Int32 × Int32) ⊕ (Int32)) := 
  match s with
  | (x1, x2) =>
    if B.vertices ≤ x2 then
      some (.inr x1)
    else
      (ix x2 6).bind fun i2 =>
      some (.inl ((x1 + (B.pile i2)), (x2 + 1)))
theorem g_22_4 {d : Nat} (hd : 1 ≤ d) {scr : ASc} {res : ARe} {c n : Nat} {H : AHp} {b : Nat} {B : Bd} (hR : Rg H b (Bd.cells b B)) {s : Int32 × Int32} {o : (Int32 × Int32) ⊕ (Int32)} (hr : G_22_4 B s = some o) (ka : ∀ s, o = .inl s → Ex d am_M22 scr (P_22_4 H b c n B s) res) (kx : ∀ s, o = .inr s → Ex d am_M22 scr (PX_22_4 H b c n B s) res) : Ex d am_M22 scr (P_22_4 H b c n B s) res := by
  obtain ⟨x1, x2⟩ := s
  delta G_22_4 at hr
  show Ex d am_M22 scr (4, [some (.ref b), some (.int x1), some (.int x2)], [], H, c, n) res
  refine x_b 1 (S2 := (5, [some (.ref b), some (.int x1), some (.int x2)], [.int x2], H, c, n)) rfl ?_
  refine x_ldan rfl rfl rfl (hR.lt (i := 0) (show 0 < 6 by decide)) ?_
  refine x_getf rfl rfl (hR.lt (i := 0) (show 0 < 6 by decide)) (hR.at (i := 0) rfl) rfl ?_
  rcases ite_some hr with ⟨h1, hr⟩ | ⟨h1, hr⟩
  · refine x_ct rfl rfl (decide_eq_true h1) ?_
    refine x_fg (Lq.n (Lq.s (Lq.n Lq.nil))) ?_
    exact kx x1 (Option.some.inj hr).symm
  · refine x_cf rfl rfl (decide_eq_false h1) ?_
    refine x_b 1 (S2 := (13, [some (.ref b), some (.int x1), some (.int x2)], [.int x1], H, c, n)) rfl ?_
    refine x_ldan rfl rfl rfl (hR.lt (i := 0) (show 0 < 6 by decide)) ?_
    refine x_getf rfl rfl (hR.lt (i := 0) (show 0 < 6 by decide)) (hR.at (i := 0) rfl) rfl ?_
    refine x_b 1 (S2 := (18, [some (.ref b), some (.int x1), some (.int x2)], [.int x2, .ref (b + 1), .int x1], H, c, n)) rfl ?_
    obtain ⟨i2, h3, hr⟩ := bd_some hr
    refine x_iald rfl rfl (hR.lt (i := 1) (show 1 < 6 by decide)) (hR.at (i := 1) rfl) h3 ?_
    refine x_b 4 (S2 := (4, [some (.ref b), some (.int (x1 + (B.pile i2))), some (.int (x2 + 1))], [], H, c, n)) rfl ?_
    refine x_fg (Lq.s (Lq.s (Lq.s Lq.nil))) ?_
    exact ka ((x1 + (B.pile i2)), (x2 + 1)) (Option.some.inj hr).symm
/-- PebbleProofs$Board.allPebbles()I -/
def F_22 (B : Bd) : Option (Int32) :=
  (lw (G_22_4 B) 200000 (0, 0)).bind fun v5 =>
  some v5
theorem f_22 {d : Nat} (hd : 1 ≤ d) {scr : ASc} {res : ARe} {c n : Nat} {H : AHp} {b : Nat} {B : Bd} (hR : Rg H b (Bd.cells b B)) {o : Int32} (hr : F_22 B = some o) (kr : res = (.inl (some (.int o)), H, c, n)) : Ex d am_M22 scr (0, [some (.ref b), none, none], [], H, c, n) res := by
  delta F_22 at hr
  refine x_b 4 (S2 := (4, [some (.ref b), some (.int 0), some (.int 0)], [], H, c, n)) rfl ?_
  refine x_fg (Lq.s (Lq.s (Lq.s Lq.nil))) ?_
  obtain ⟨v5, h4, hr⟩ := bd_some hr
  refine x_lw (P := P_22_4 H b c n B) (Q := fun x => Ex d am_M22 scr (PX_22_4 H b c n B x) res) (fun s o h1 ka kx => g_22_4 hd hR h1 ka kx) _ (0, 0) _ h4 ?_
  show Ex d am_M22 scr (27, [none, some (.int v5), none], [], H, c, n) res
  refine x_b 1 (S2 := (28, [none, some (.int v5), none], [.int v5], H, c, n)) rfl ?_
  cases hr
  rw [kr]
  exact x_ret rfl rfl am_ret_i
theorem m_22 {scr : ASc} {H : AHp} {b : Nat} {B : Bd} (hR : Rg H b (Bd.cells b B)) {o : Int32} (hr : F_22 B = some o) : Rn scr 2 22 [.ref b] H (.inl (some (.int o)), H, 0, 0) :=
  x_meth (M := am_M22) rfl (show 1 ≤ 3 by decide) (f_22 (Nat.le_refl _) hR hr rfl)
def J_23_0_j36 (B : Bd) (t0 : Int32) : Option (Int32) :=
  if t0 = 0 ∨ t0 = 1 then some t0 else none
theorem j_23_0_j36 {d : Nat} (hd : 2 ≤ d) {scr : ASc} {res : ARe} {c n : Nat} {H : AHp} {b : Nat} {B : Bd} {t0 : Int32} (hR : Rg H b (Bd.cells b B)) {o : Int32} (hr : J_23_0_j36 B t0 = some o) (kr : res = (.inl (some (.int o)), H, c, n)) : Ex d am_M23 scr (36, [none, none, none], [.int t0], H, c, n) res := by
  delta J_23_0_j36 at hr
  obtain ⟨h4, hr⟩ := itn_some hr
  cases hr
  rw [kr]
  exact x_ret rfl rfl (am_ret_z h4)
def J_23_0_j35 (B : Bd) : Option (Int32) :=
  J_23_0_j36 B 0
theorem j_23_0_j35 {d : Nat} (hd : 2 ≤ d) {scr : ASc} {res : ARe} {c n : Nat} {H : AHp} {b : Nat} {B : Bd} (hR : Rg H b (Bd.cells b B)) {o : Int32} (hr : J_23_0_j35 B = some o) (kr : res = (.inl (some (.int o)), H, c, n)) : Ex d am_M23 scr (35, [none, none, none], [], H, c, n) res := by
  delta J_23_0_j35 at hr
  refine x_b 1 (S2 := (36, [none, none, none], [.int 0], H, c, n)) rfl ?_
  refine x_fg (Lq.s (Lq.s (Lq.s Lq.nil))) ?_
  exact j_23_0_j36 hd hR hr kr
/-- PebbleProofs$Board.allowsMove(II)Z -/
def F_23 (B : Bd) (x1 : Int32) (x2 : Int32) : Option (Int32) :=
  (ix x1 6).bind fun i1 =>
  if (B.pile i1) < 2 then
    J_23_0_j35 B
  else
    (F_6 B x1 x2).bind fun v6 =>
    if v6 = 0 then
      J_23_0_j35 B
    else
      (ix x2 6).bind fun i8 =>
      if 999 ≤ (B.pile i8) then
        J_23_0_j35 B
      else
        J_23_0_j36 B 1
theorem f_23 {d : Nat} (hd : 2 ≤ d) {scr : ASc} {res : ARe} {c n : Nat} {H : AHp} {b : Nat} {B : Bd} {x1 : Int32} {x2 : Int32} (hR : Rg H b (Bd.cells b B)) {o : Int32} (hr : F_23 B x1 x2 = some o) (kr : res = (.inl (some (.int o)), H, c, n)) : Ex d am_M23 scr (0, [some (.ref b), some (.int x1), some (.int x2)], [], H, c, n) res := by
  delta F_23 at hr
  refine x_ldan rfl rfl rfl (hR.lt (i := 0) (show 0 < 6 by decide)) ?_
  refine x_getf rfl rfl (hR.lt (i := 0) (show 0 < 6 by decide)) (hR.at (i := 0) rfl) rfl ?_
  refine x_b 1 (S2 := (5, [some (.ref b), some (.int x1), some (.int x2)], [.int x1, .ref (b + 1)], H, c, n)) rfl ?_
  obtain ⟨i1, h2, hr⟩ := bd_some hr
  refine x_iald rfl rfl (hR.lt (i := 1) (show 1 < 6 by decide)) (hR.at (i := 1) rfl) h2 ?_
  refine x_b 1 (S2 := (7, [some (.ref b), some (.int x1), some (.int x2)], [.int 2, .int (B.pile i1)], H, c, n)) rfl ?_
  rcases ite_some hr with ⟨h3, hr⟩ | ⟨h3, hr⟩
  · refine x_ct rfl rfl (decide_eq_true h3) ?_
    refine x_fg (Lq.n (Lq.n (Lq.n Lq.nil))) ?_
    exact j_23_0_j35 hd hR hr kr
  · refine x_cf rfl rfl (decide_eq_false h3) ?_
    refine x_ldan rfl rfl rfl (hR.lt (i := 0) (show 0 < 6 by decide)) ?_
    refine x_b 2 (S2 := (13, [some (.ref b), some (.int x1), some (.int x2)], [.int x2, .int x1, .ref b], H, c, n)) rfl ?_
    obtain ⟨v6, h5, hr⟩ := bd_some hr
    refine x_c0 (m_6 hR h5) rfl rfl rfl rfl (am_recv_v (hR.lt (i := 0) (show 0 < 6 by decide)) (hR.at (i := 0) rfl) rfl) (by omega) ?_
    rcases ite_some hr with ⟨h7, hr⟩ | ⟨h7, hr⟩
    · refine x_zt rfl rfl (decide_eq_true h7) ?_
      refine x_fg (Lq.n (Lq.n (Lq.n Lq.nil))) ?_
      exact j_23_0_j35 hd hR hr kr
    · refine x_zf rfl rfl (decide_eq_false h7) ?_
      refine x_ldan rfl rfl rfl (hR.lt (i := 0) (show 0 < 6 by decide)) ?_
      refine x_getf rfl rfl (hR.lt (i := 0) (show 0 < 6 by decide)) (hR.at (i := 0) rfl) rfl ?_
      refine x_b 1 (S2 := (24, [some (.ref b), some (.int x1), some (.int x2)], [.int x2, .ref (b + 1)], H, c, n)) rfl ?_
      obtain ⟨i8, h9, hr⟩ := bd_some hr
      refine x_iald rfl rfl (hR.lt (i := 1) (show 1 < 6 by decide)) (hR.at (i := 1) rfl) h9 ?_
      refine x_b 1 (S2 := (28, [some (.ref b), some (.int x1), some (.int x2)], [.int 999, .int (B.pile i8)], H, c, n)) rfl ?_
      rcases ite_some hr with ⟨h10, hr⟩ | ⟨h10, hr⟩
      · refine x_ct rfl rfl (decide_eq_true h10) ?_
        refine x_fg (Lq.n (Lq.n (Lq.n Lq.nil))) ?_
        exact j_23_0_j35 hd hR hr kr
      · refine x_cf rfl rfl (decide_eq_false h10) ?_
        refine x_b 2 (S2 := (36, [some (.ref b), some (.int x1), some (.int x2)], [.int 1], H, c, n)) rfl ?_
        refine x_fg (Lq.n (Lq.n (Lq.n Lq.nil))) ?_
        exact j_23_0_j36 hd hR hr kr
theorem m_23 {scr : ASc} {H : AHp} {b : Nat} {B : Bd} {x1 : Int32} {x2 : Int32} (hR : Rg H b (Bd.cells b B)) {o : Int32} (hr : F_23 B x1 x2 = some o) : Rn scr 3 23 [.ref b, .int x1, .int x2] H (.inl (some (.int o)), H, 0, 0) :=
  x_meth (M := am_M23) rfl (show 3 ≤ 3 by decide) (f_23 (Nat.le_refl _) hR hr rfl)
/-- PebbleProofs$Board.makeMove(II)V -/
def F_24 (B : Bd) (x1 : Int32) (x2 : Int32) : Option (Bd) :=
  (ix x1 6).bind fun i1 =>
  (some (B.w_pile (upd B.pile i1 ((B.pile i1) - 2)))).bind fun B3 =>
  (ix x2 6).bind fun i5 =>
  (some (B3.w_pile (upd B3.pile i5 ((B3.pile i5) + 1)))).bind fun B7 =>
  (some (B7.w_moveCount (B7.moveCount + 1))).bind fun B9 =>
  some B9
theorem f_24 {d : Nat} (hd : 1 ≤ d) {scr : ASc} {res : ARe} {c n : Nat} {h : AHp} {b : Nat} (hb : b + 6 ≤ am_SB) (hh : b + 6 ≤ h.length) {B : Bd} {x1 : Int32} {x2 : Int32} {o : Bd} (hr : F_24 B x1 x2 = some o) (kr : res = (.inl (none), hput h b (Bd.cells b o), c, n)) : Ex d am_M24 scr (0, [some (.ref b), some (.int x1), some (.int x2)], [], (hput h b (Bd.cells b B)), c, n) res := by
  delta F_24 at hr
  refine x_ldan rfl rfl rfl (h_lt (i := 0) hb (by decide)) ?_
  refine x_getf rfl rfl (h_lt (i := 0) hb (by decide)) (hp_at (i := 0) hh rfl rfl) rfl ?_
  refine x_b 2 (S2 := (6, [some (.ref b), some (.int x1), some (.int x2)], [.int x1, .ref (b + 1), .int x1, .ref (b + 1)], (hput h b (Bd.cells b B)), c, n)) rfl ?_
  obtain ⟨i1, h2, hr⟩ := bd_some hr
  refine x_iald rfl rfl (h_lt (i := 1) hb (by decide)) (hp_at (i := 1) hh rfl rfl) h2 ?_
  refine x_b 2 (S2 := (9, [some (.ref b), some (.int x1), some (.int x2)], [.int ((B.pile i1) - 2), .int x1, .ref (b + 1)], (hput h b (Bd.cells b B)), c, n)) rfl ?_
  obtain ⟨B3, h4, hr⟩ := bd_some hr
  refine x_iast (H := (hput h b (Bd.cells b B3))) rfl rfl (h_lt (i := 1) hb (by decide)) (hp_at (i := 1) hh rfl rfl) h2 (hp_set (i := 1) hh rfl (by decide) (Bd.s_pile h4)) ?_
  refine x_ldan rfl rfl rfl (h_lt (i := 0) hb (by decide)) ?_
  refine x_getf rfl rfl (h_lt (i := 0) hb (by decide)) (hp_at (i := 0) hh rfl rfl) rfl ?_
  refine x_b 2 (S2 := (16, [some (.ref b), some (.int x1), some (.int x2)], [.int x2, .ref (b + 1), .int x2, .ref (b + 1)], (hput h b (Bd.cells b B3)), c, n)) rfl ?_
  obtain ⟨i5, h6, hr⟩ := bd_some hr
  refine x_iald rfl rfl (h_lt (i := 1) hb (by decide)) (hp_at (i := 1) hh rfl rfl) h6 ?_
  refine x_b 2 (S2 := (19, [some (.ref b), some (.int x1), some (.int x2)], [.int ((B3.pile i5) + 1), .int x2, .ref (b + 1)], (hput h b (Bd.cells b B3)), c, n)) rfl ?_
  obtain ⟨B7, h8, hr⟩ := bd_some hr
  refine x_iast (H := (hput h b (Bd.cells b B7))) rfl rfl (h_lt (i := 1) hb (by decide)) (hp_at (i := 1) hh rfl rfl) h6 (hp_set (i := 1) hh rfl (by decide) (Bd.s_pile h8)) ?_
  refine x_ldan rfl rfl rfl (h_lt (i := 0) hb (by decide)) ?_
  refine x_b 1 (S2 := (22, [some (.ref b), some (.int x1), some (.int x2)], [.ref b, .ref b], (hput h b (Bd.cells b B7)), c, n)) rfl ?_
  refine x_getf rfl rfl (h_lt (i := 0) hb (by decide)) (hp_at (i := 0) hh rfl rfl) rfl ?_
  refine x_b 2 (S2 := (27, [some (.ref b), some (.int x1), some (.int x2)], [.int (B7.moveCount + 1), .ref b], (hput h b (Bd.cells b B7)), c, n)) rfl ?_
  obtain ⟨B9, h10, hr⟩ := bd_some hr
  refine x_putf (H := (hput h b (Bd.cells b B9))) rfl rfl (h_lt (i := 0) hb (by decide)) (hp_at (i := 0) hh rfl rfl) ⟨(show 2 < 9 by decide), rfl, rfl, nofun⟩ (hp_set (i := 0) hh rfl (by decide) (Bd.s_moveCount rfl h10)) ?_
  cases hr
  rw [kr]
  exact x_ret rfl rfl rfl
theorem m_24 {scr : ASc} {h : AHp} {b : Nat} (hb : b + 6 ≤ am_SB) (hh : b + 6 ≤ h.length) {B : Bd} {x1 : Int32} {x2 : Int32} {o : Bd} (hr : F_24 B x1 x2 = some o) : Rn scr 2 24 [.ref b, .int x1, .int x2] (hput h b (Bd.cells b B)) (.inl (none), hput h b (Bd.cells b o), 0, 0) :=
  x_meth (M := am_M24) rfl (show 3 ≤ 3 by decide) (f_24 (Nat.le_refl _) hb hh hr rfl)
/-- PebbleProofs$Board.setWeight(IIII)V -/
def F_27 (B : Bd) (x1 : Int32) (x2 : Int32) (x3 : Int32) (x4 : Int32) : Option (Bd) :=
  (ix ((6 * x1) + x2) 36).bind fun i1 =>
  (some (B.w_weights (upd B.weights i1 x4))).bind fun B3 =>
  (some (B3.w_parents (upd B3.parents i1 x3))).bind fun B5 =>
  some B5
theorem f_27 {d : Nat} (hd : 1 ≤ d) {scr : ASc} {res : ARe} {c n : Nat} {h : AHp} {b : Nat} (hb : b + 6 ≤ am_SB) (hh : b + 6 ≤ h.length) {B : Bd} {x1 : Int32} {x2 : Int32} {x3 : Int32} {x4 : Int32} {o : Bd} (hr : F_27 B x1 x2 x3 x4 = some o) (kr : res = (.inl (none), hput h b (Bd.cells b o), c, n)) : Ex d am_M27 scr (0, [some (.ref b), some (.int x1), some (.int x2), some (.int x3), some (.int x4)], [], (hput h b (Bd.cells b B)), c, n) res := by
  delta F_27 at hr
  refine x_ldan rfl rfl rfl (h_lt (i := 0) hb (by decide)) ?_
  refine x_getf rfl rfl (h_lt (i := 0) hb (by decide)) (hp_at (i := 0) hh rfl rfl) rfl ?_
  refine x_b 6 (S2 := (12, [some (.ref b), some (.int x1), some (.int x2), some (.int x3), some (.int x4)], [.int x4, .int ((6 * x1) + x2), .ref (b + 4)], (hput h b (Bd.cells b B)), c, n)) rfl ?_
  obtain ⟨i1, h2, hr⟩ := bd_some hr
  obtain ⟨B3, h4, hr⟩ := bd_some hr
  refine x_iast (H := (hput h b (Bd.cells b B3))) rfl rfl (h_lt (i := 4) hb (by decide)) (hp_at (i := 4) hh rfl rfl) h2 (hp_set (i := 4) hh rfl (by decide) (Bd.s_weights h4)) ?_
  refine x_ldan rfl rfl rfl (h_lt (i := 0) hb (by decide)) ?_
  refine x_getf rfl rfl (h_lt (i := 0) hb (by decide)) (hp_at (i := 0) hh rfl rfl) rfl ?_
  refine x_b 6 (S2 := (24, [some (.ref b), some (.int x1), some (.int x2), some (.int x3), some (.int x4)], [.int x3, .int ((6 * x1) + x2), .ref (b + 5)], (hput h b (Bd.cells b B3)), c, n)) rfl ?_
  obtain ⟨B5, h6, hr⟩ := bd_some hr
  refine x_iast (H := (hput h b (Bd.cells b B5))) rfl rfl (h_lt (i := 5) hb (by decide)) (hp_at (i := 5) hh rfl rfl) h2 (hp_set (i := 5) hh rfl (by decide) (Bd.s_parents h6)) ?_
  cases hr
  rw [kr]
  exact x_ret rfl rfl rfl
theorem m_27 {scr : ASc} {h : AHp} {b : Nat} (hb : b + 6 ≤ am_SB) (hh : b + 6 ≤ h.length) {B : Bd} {x1 : Int32} {x2 : Int32} {x3 : Int32} {x4 : Int32} {o : Bd} (hr : F_27 B x1 x2 x3 x4 = some o) : Rn scr 2 27 [.ref b, .int x1, .int x2, .int x3, .int x4] (hput h b (Bd.cells b B)) (.inl (none), hput h b (Bd.cells b o), 0, 0) :=
  x_meth (M := am_M27) rfl (show 5 ≤ 5 by decide) (f_27 (Nat.le_refl _) hb hh hr rfl)
abbrev P_25_14 (h : AHp) (b : Nat) (c n : Nat) (x2 : Int32) (s : Int32 × (Bd)) : ASt := (14, [some (.ref b), none, some (.int x2), some (.int s.1)], [], (hput h b (Bd.cells b s.2)), c, n)
abbrev PX_25_14 (h : AHp) (b : Nat) (c n : Nat) (x2 : Int32) (s : (Bd)) : ASt := (34, [some (.ref b), none, none, none], [], (hput h b (Bd.cells b s)), c, n)
def G_25_14 (x2 : Int32) (s : Int32 × (Bd)) : Option ((Int32 × (Bd)) ⊕ ((Bd))) := 
  match s with
  | (x3, B) =>
    if 6 ≤ x3 then
      some (.inr B)
    else
      (F_27 B x2 x3 (-1) 0).bind fun B7 =>
      some (.inl ((x3 + 1), B7))
theorem g_25_14 {d : Nat} (hd : 2 ≤ d) {scr : ASc} {res : ARe} {c n : Nat} {h : AHp} {b : Nat} (hb : b + 6 ≤ am_SB) (hh : b + 6 ≤ h.length) {x2 : Int32} {s : Int32 × (Bd)} {o : (Int32 × (Bd)) ⊕ ((Bd))} (hr : G_25_14 x2 s = some o) (ka : ∀ s, o = .inl s → Ex d am_M25 scr (P_25_14 h b c n x2 s) res) (kx : ∀ s, o = .inr s → Ex d am_M25 scr (PX_25_14 h b c n x2 s) res) : Ex d am_M25 scr (P_25_14 h b c n x2 s) res := by
  obtain ⟨x3, B⟩ := s
  delta G_25_14 at hr
  show Ex d am_M25 scr (14, [some (.ref b), none, some (.int x2), some (.int x3)], [], (hput h b (Bd.cells b B)), c, n) res
  refine x_b 2 (S2 := (17, [some (.ref b), none, some (.int x2), some (.int x3)], [.int 6, .int x3], (hput h b (Bd.cells b B)), c, n)) rfl ?_
  rcases ite_some hr with ⟨h5, hr⟩ | ⟨h5, hr⟩
  · refine x_ct rfl rfl (decide_eq_true h5) ?_
    refine x_fg (Lq.s (Lq.s (Lq.n (Lq.n Lq.nil)))) ?_
    exact kx B (Option.some.inj hr).symm
  · refine x_cf rfl rfl (decide_eq_false h5) ?_
    refine x_ldan rfl rfl rfl (h_lt (i := 0) hb (by decide)) ?_
    refine x_b 4 (S2 := (25, [some (.ref b), none, some (.int x2), some (.int x3)], [.int 0, .int (-1), .int x3, .int x2, .ref b], (hput h b (Bd.cells b B)), c, n)) rfl ?_
    obtain ⟨B7, h6, hr⟩ := bd_some hr
    refine x_c0 (m_27 hb hh h6) rfl rfl rfl rfl (am_recv_v (h_lt (i := 0) hb (by decide)) (hp_at (i := 0) hh rfl rfl) rfl) (by omega) ?_
    refine x_b 2 (S2 := (14, [some (.ref b), none, some (.int x2), some (.int (x3 + 1))], [], (hput h b (Bd.cells b B7)), c, n)) rfl ?_
    refine x_fg (Lq.s (Lq.s (Lq.s (Lq.s Lq.nil)))) ?_
    exact ka ((x3 + 1), B7) (Option.some.inj hr).symm
/-- PebbleProofs$Board.openStrategy(I)V -/
def F_25 (B : Bd) (x1 : Int32) : Option (Bd) :=
  (ix B.strategyCount 6).bind fun i1 =>
  (some (B.w_targets (upd B.targets i1 x1))).bind fun B3 =>
  (lw (G_25_14 B.strategyCount) 200000 (0, B3)).bind fun B9 =>
  (some (B9.w_strategyCount (B9.strategyCount + 1))).bind fun B11 =>
  some B11
theorem f_25 {d : Nat} (hd : 2 ≤ d) {scr : ASc} {res : ARe} {c n : Nat} {h : AHp} {b : Nat} (hb : b + 6 ≤ am_SB) (hh : b + 6 ≤ h.length) {B : Bd} {x1 : Int32} {o : Bd} (hr : F_25 B x1 = some o) (kr : res = (.inl (none), hput h b (Bd.cells b o), c, n)) : Ex d am_M25 scr (0, [some (.ref b), some (.int x1), none, none], [], (hput h b (Bd.cells b B)), c, n) res := by
  delta F_25 at hr
  refine x_ldan rfl rfl rfl (h_lt (i := 0) hb (by decide)) ?_
  refine x_getf rfl rfl (h_lt (i := 0) hb (by decide)) (hp_at (i := 0) hh rfl rfl) rfl ?_
  refine x_b 1 (S2 := (5, [some (.ref b), some (.int x1), some (.int B.strategyCount), none], [], (hput h b (Bd.cells b B)), c, n)) rfl ?_
  refine x_ldan rfl rfl rfl (h_lt (i := 0) hb (by decide)) ?_
  refine x_getf rfl rfl (h_lt (i := 0) hb (by decide)) (hp_at (i := 0) hh rfl rfl) rfl ?_
  refine x_b 2 (S2 := (11, [some (.ref b), some (.int x1), some (.int B.strategyCount), none], [.int x1, .int B.strategyCount, .ref (b + 3)], (hput h b (Bd.cells b B)), c, n)) rfl ?_
  obtain ⟨i1, h2, hr⟩ := bd_some hr
  obtain ⟨B3, h4, hr⟩ := bd_some hr
  refine x_iast (H := (hput h b (Bd.cells b B3))) rfl rfl (h_lt (i := 3) hb (by decide)) (hp_at (i := 3) hh rfl rfl) h2 (hp_set (i := 3) hh rfl (by decide) (Bd.s_targets h4)) ?_
  refine x_b 2 (S2 := (14, [some (.ref b), some (.int x1), some (.int B.strategyCount), some (.int 0)], [], (hput h b (Bd.cells b B3)), c, n)) rfl ?_
  refine x_fg (Lq.s (Lq.n (Lq.s (Lq.s Lq.nil)))) ?_
  obtain ⟨B9, h8, hr⟩ := bd_some hr
  refine x_lw (P := P_25_14 h b c n B.strategyCount) (Q := fun x => Ex d am_M25 scr (PX_25_14 h b c n B.strategyCount x) res) (fun s o h1 ka kx => g_25_14 hd hb hh h1 ka kx) _ (0, B3) _ h8 ?_
  show Ex d am_M25 scr (34, [some (.ref b), none, none, none], [], (hput h b (Bd.cells b B9)), c, n) res
  refine x_ldan rfl rfl rfl (h_lt (i := 0) hb (by decide)) ?_
  refine x_b 1 (S2 := (36, [some (.ref b), none, none, none], [.ref b, .ref b], (hput h b (Bd.cells b B9)), c, n)) rfl ?_
  refine x_getf rfl rfl (h_lt (i := 0) hb (by decide)) (hp_at (i := 0) hh rfl rfl) rfl ?_
  refine x_b 2 (S2 := (41, [some (.ref b), none, none, none], [.int (B9.strategyCount + 1), .ref b], (hput h b (Bd.cells b B9)), c, n)) rfl ?_
  obtain ⟨B11, h12, hr⟩ := bd_some hr
  refine x_putf (H := (hput h b (Bd.cells b B11))) rfl rfl (h_lt (i := 0) hb (by decide)) (hp_at (i := 0) hh rfl rfl) ⟨(show 3 < 9 by decide), rfl, rfl, nofun⟩ (hp_set (i := 0) hh rfl (by decide) (Bd.s_strategyCount rfl h12)) ?_
  cases hr
  rw [kr]
  exact x_ret rfl rfl rfl
theorem m_25 {scr : ASc} {h : AHp} {b : Nat} (hb : b + 6 ≤ am_SB) (hh : b + 6 ≤ h.length) {B : Bd} {x1 : Int32} {o : Bd} (hr : F_25 B x1 = some o) : Rn scr 3 25 [.ref b, .int x1] (hput h b (Bd.cells b B)) (.inl (none), hput h b (Bd.cells b o), 0, 0) :=
  x_meth (M := am_M25) rfl (show 2 ≤ 4 by decide) (f_25 (Nat.le_refl _) hb hh hr rfl)
/-- PebbleProofs$Board.parentOf(II)I -/
def F_29 (B : Bd) (x1 : Int32) (x2 : Int32) : Option (Int32) :=
  (ix ((6 * x1) + x2) 36).bind fun i1 =>
  some (B.parents i1)
theorem f_29 {d : Nat} (hd : 1 ≤ d) {scr : ASc} {res : ARe} {c n : Nat} {H : AHp} {b : Nat} {B : Bd} {x1 : Int32} {x2 : Int32} (hR : Rg H b (Bd.cells b B)) {o : Int32} (hr : F_29 B x1 x2 = some o) (kr : res = (.inl (some (.int o)), H, c, n)) : Ex d am_M29 scr (0, [some (.ref b), some (.int x1), some (.int x2)], [], H, c, n) res := by
  delta F_29 at hr
  refine x_ldan rfl rfl rfl (hR.lt (i := 0) (show 0 < 6 by decide)) ?_
  refine x_getf rfl rfl (hR.lt (i := 0) (show 0 < 6 by decide)) (hR.at (i := 0) rfl) rfl ?_
  refine x_b 5 (S2 := (10, [some (.ref b), some (.int x1), some (.int x2)], [.int ((6 * x1) + x2), .ref (b + 5)], H, c, n)) rfl ?_
  obtain ⟨i1, h2, hr⟩ := bd_some hr
  refine x_iald rfl rfl (hR.lt (i := 5) (show 5 < 6 by decide)) (hR.at (i := 5) rfl) h2 ?_
  cases hr
  rw [kr]
  exact x_ret rfl rfl am_ret_i
theorem m_29 {scr : ASc} {H : AHp} {b : Nat} {B : Bd} {x1 : Int32} {x2 : Int32} (hR : Rg H b (Bd.cells b B)) {o : Int32} (hr : F_29 B x1 x2 = some o) : Rn scr 2 29 [.ref b, .int x1, .int x2] H (.inl (some (.int o)), H, 0, 0) :=
  x_meth (M := am_M29) rfl (show 3 ≤ 3 by decide) (f_29 (Nat.le_refl _) hR hr rfl)
/-- PebbleProofs$Board.weightOf(II)I -/
def F_28 (B : Bd) (x1 : Int32) (x2 : Int32) : Option (Int32) :=
  (ix ((6 * x1) + x2) 36).bind fun i1 =>
  some (B.weights i1)
theorem f_28 {d : Nat} (hd : 1 ≤ d) {scr : ASc} {res : ARe} {c n : Nat} {H : AHp} {b : Nat} {B : Bd} {x1 : Int32} {x2 : Int32} (hR : Rg H b (Bd.cells b B)) {o : Int32} (hr : F_28 B x1 x2 = some o) (kr : res = (.inl (some (.int o)), H, c, n)) : Ex d am_M28 scr (0, [some (.ref b), some (.int x1), some (.int x2)], [], H, c, n) res := by
  delta F_28 at hr
  refine x_ldan rfl rfl rfl (hR.lt (i := 0) (show 0 < 6 by decide)) ?_
  refine x_getf rfl rfl (hR.lt (i := 0) (show 0 < 6 by decide)) (hR.at (i := 0) rfl) rfl ?_
  refine x_b 5 (S2 := (10, [some (.ref b), some (.int x1), some (.int x2)], [.int ((6 * x1) + x2), .ref (b + 4)], H, c, n)) rfl ?_
  obtain ⟨i1, h2, hr⟩ := bd_some hr
  refine x_iald rfl rfl (hR.lt (i := 4) (show 4 < 6 by decide)) (hR.at (i := 4) rfl) h2 ?_
  cases hr
  rw [kr]
  exact x_ret rfl rfl am_ret_i
theorem m_28 {scr : ASc} {H : AHp} {b : Nat} {B : Bd} {x1 : Int32} {x2 : Int32} (hR : Rg H b (Bd.cells b B)) {o : Int32} (hr : F_28 B x1 x2 = some o) : Rn scr 2 28 [.ref b, .int x1, .int x2] H (.inl (some (.int o)), H, 0, 0) :=
  x_meth (M := am_M28) rfl (show 3 ≤ 3 by decide) (f_28 (Nat.le_refl _) hR hr rfl)
abbrev P_26_2 (h : AHp) (b : Nat) (c n : Nat)  (s : Int32 × (Bd)) : ASt := (2, [some (.ref b), none, some (.int s.1), none], [], (hput h b (Bd.cells b s.2)), c, n)
abbrev PX_26_2 (h : AHp) (b : Nat) (c n : Nat)  (s : (Bd)) : ASt := (70, [some (.ref b), none, none, none], [], (hput h b (Bd.cells b s)), c, n)
abbrev P_26_28 (h : AHp) (b : Nat) (c n : Nat) (x2 : Int32) (s : Int32 × (Bd)) : ASt := (28, [some (.ref b), none, some (.int x2), some (.int s.1)], [], (hput h b (Bd.cells b s.2)), c, n)
abbrev PX_26_28 (h : AHp) (b : Nat) (c n : Nat) (x2 : Int32) (s : (Bd)) : ASt := (64, [some (.ref b), none, some (.int x2), none], [], (hput h b (Bd.cells b s)), c, n)
def G_26_28 (x2 : Int32) (s : Int32 × (Bd)) : Option ((Int32 × (Bd)) ⊕ ((Bd))) := 
  match s with
  | (x3, B) =>
    if B.vertices ≤ x3 then
      some (.inr B)
    else
      (F_29 B (x2 + 1) x3).bind fun v10 =>
      (F_28 B (x2 + 1) x3).bind fun v12 =>
      (F_27 B x2 x3 v10 v12).bind fun B14 =>
      some (.inl ((x3 + 1), B14))
theorem g_26_28 {d : Nat} (hd : 2 ≤ d) {scr : ASc} {res : ARe} {c n : Nat} {h : AHp} {b : Nat} (hb : b + 6 ≤ am_SB) (hh : b + 6 ≤ h.length) {x2 : Int32} {s : Int32 × (Bd)} {o : (Int32 × (Bd)) ⊕ ((Bd))} (hr : G_26_28 x2 s = some o) (ka : ∀ s, o = .inl s → Ex d am_M26 scr (P_26_28 h b c n x2 s) res) (kx : ∀ s, o = .inr s → Ex d am_M26 scr (PX_26_28 h b c n x2 s) res) : Ex d am_M26 scr (P_26_28 h b c n x2 s) res := by
  obtain ⟨x3, B⟩ := s
  delta G_26_28 at hr
  show Ex d am_M26 scr (28, [some (.ref b), none, some (.int x2), some (.int x3)], [], (hput h b (Bd.cells b B)), c, n) res
  refine x_b 1 (S2 := (29, [some (.ref b), none, some (.int x2), some (.int x3)], [.int x3], (hput h b (Bd.cells b B)), c, n)) rfl ?_
  refine x_ldan rfl rfl rfl (h_lt (i := 0) hb (by decide)) ?_
  refine x_getf rfl rfl (h_lt (i := 0) hb (by decide)) (hp_at (i := 0) hh rfl rfl) rfl ?_
  rcases ite_some hr with ⟨h8, hr⟩ | ⟨h8, hr⟩
  · refine x_ct rfl rfl (decide_eq_true h8) ?_
    refine x_fg (Lq.s (Lq.s (Lq.s (Lq.n Lq.nil)))) ?_
    exact kx B (Option.some.inj hr).symm
  · refine x_cf rfl rfl (decide_eq_false h8) ?_
    refine x_ldan rfl rfl rfl (h_lt (i := 0) hb (by decide)) ?_
    refine x_b 2 (S2 := (39, [some (.ref b), none, some (.int x2), some (.int x3)], [.int x3, .int x2, .ref b], (hput h b (Bd.cells b B)), c, n)) rfl ?_
    refine x_ldan rfl rfl rfl (h_lt (i := 0) hb (by decide)) ?_
    refine x_b 4 (S2 := (44, [some (.ref b), none, some (.int x2), some (.int x3)], [.int x3, .int (x2 + 1), .ref b, .int x3, .int x2, .ref b], (hput h b (Bd.cells b B)), c, n)) rfl ?_
    obtain ⟨v10, h9, hr⟩ := bd_some hr
    refine x_c0 (m_29 (hp_rg hb hh rfl) h9) rfl rfl rfl rfl (am_recv_v (h_lt (i := 0) hb (by decide)) (hp_at (i := 0) hh rfl rfl) rfl) (by omega) ?_
    refine x_ldan rfl rfl rfl (h_lt (i := 0) hb (by decide)) ?_
    refine x_b 4 (S2 := (52, [some (.ref b), none, some (.int x2), some (.int x3)], [.int x3, .int (x2 + 1), .ref b, .int v10, .int x3, .int x2, .ref b], (hput h b (Bd.cells b B)), c, n)) rfl ?_
    obtain ⟨v12, h11, hr⟩ := bd_some hr
    refine x_c0 (m_28 (hp_rg hb hh rfl) h11) rfl rfl rfl rfl (am_recv_v (h_lt (i := 0) hb (by decide)) (hp_at (i := 0) hh rfl rfl) rfl) (by omega) ?_
    obtain ⟨B14, h13, hr⟩ := bd_some hr
    refine x_c0 (m_27 hb hh h13) rfl rfl rfl rfl (am_recv_v (h_lt (i := 0) hb (by decide)) (hp_at (i := 0) hh rfl rfl) rfl) (by omega) ?_
    refine x_b 2 (S2 := (28, [some (.ref b), none, some (.int x2), some (.int (x3 + 1))], [], (hput h b (Bd.cells b B14)), c, n)) rfl ?_
    refine x_fg (Lq.s (Lq.s (Lq.s (Lq.s Lq.nil)))) ?_
    exact ka ((x3 + 1), B14) (Option.some.inj hr).symm
def G_26_2  (s : Int32 × (Bd)) : Option ((Int32 × (Bd)) ⊕ ((Bd))) := 
  match s with
  | (x2, B) =>
    if B.strategyCount ≤ (x2 + 1) then
      some (.inr B)
    else
      (ix (x2 + 1) 6).bind fun i2 =>
      (ix x2 6).bind fun i4 =>
      (some (B.w_targets (upd B.targets i4 (B.targets i2)))).bind fun B6 =>
      (lw (G_26_28 x2) 200000 (0, B6)).bind fun B16 =>
      some (.inl ((x2 + 1), B16))
theorem g_26_2 {d : Nat} (hd : 2 ≤ d) {scr : ASc} {res : ARe} {c n : Nat} {h : AHp} {b : Nat} (hb : b + 6 ≤ am_SB) (hh : b + 6 ≤ h.length)  {s : Int32 × (Bd)} {o : (Int32 × (Bd)) ⊕ ((Bd))} (hr : G_26_2  s = some o) (ka : ∀ s, o = .inl s → Ex d am_M26 scr (P_26_2 h b c n  s) res) (kx : ∀ s, o = .inr s → Ex d am_M26 scr (PX_26_2 h b c n  s) res) : Ex d am_M26 scr (P_26_2 h b c n  s) res := by
  obtain ⟨x2, B⟩ := s
  delta G_26_2 at hr
  show Ex d am_M26 scr (2, [some (.ref b), none, some (.int x2), none], [], (hput h b (Bd.cells b B)), c, n) res
  refine x_b 3 (S2 := (5, [some (.ref b), none, some (.int x2), none], [.int (x2 + 1)], (hput h b (Bd.cells b B)), c, n)) rfl ?_
  refine x_ldan rfl rfl rfl (h_lt (i := 0) hb (by decide)) ?_
  refine x_getf rfl rfl (h_lt (i := 0) hb (by decide)) (hp_at (i := 0) hh rfl rfl) rfl ?_
  rcases ite_some hr with ⟨h1, hr⟩ | ⟨h1, hr⟩
  · refine x_ct rfl rfl (decide_eq_true h1) ?_
    refine x_fg (Lq.s (Lq.s (Lq.n (Lq.s Lq.nil)))) ?_
    exact kx B (Option.some.inj hr).symm
  · refine x_cf rfl rfl (decide_eq_false h1) ?_
    refine x_ldan rfl rfl rfl (h_lt (i := 0) hb (by decide)) ?_
    refine x_getf rfl rfl (h_lt (i := 0) hb (by decide)) (hp_at (i := 0) hh rfl rfl) rfl ?_
    refine x_b 1 (S2 := (17, [some (.ref b), none, some (.int x2), none], [.int x2, .ref (b + 3)], (hput h b (Bd.cells b B)), c, n)) rfl ?_
    refine x_ldan rfl rfl rfl (h_lt (i := 0) hb (by decide)) ?_
    refine x_getf rfl rfl (h_lt (i := 0) hb (by decide)) (hp_at (i := 0) hh rfl rfl) rfl ?_
    refine x_b 3 (S2 := (24, [some (.ref b), none, some (.int x2), none], [.int (x2 + 1), .ref (b + 3), .int x2, .ref (b + 3)], (hput h b (Bd.cells b B)), c, n)) rfl ?_
    obtain ⟨i2, h3, hr⟩ := bd_some hr
    refine x_iald rfl rfl (h_lt (i := 3) hb (by decide)) (hp_at (i := 3) hh rfl rfl) h3 ?_
    obtain ⟨i4, h5, hr⟩ := bd_some hr
    obtain ⟨B6, h7, hr⟩ := bd_some hr
    refine x_iast (H := (hput h b (Bd.cells b B6))) rfl rfl (h_lt (i := 3) hb (by decide)) (hp_at (i := 3) hh rfl rfl) h5 (hp_set (i := 3) hh rfl (by decide) (Bd.s_targets h7)) ?_
    refine x_b 2 (S2 := (28, [some (.ref b), none, some (.int x2), some (.int 0)], [], (hput h b (Bd.cells b B6)), c, n)) rfl ?_
    refine x_fg (Lq.s (Lq.s (Lq.s (Lq.s Lq.nil)))) ?_
    obtain ⟨B16, h15, hr⟩ := bd_some hr
    refine x_lw (P := P_26_28 h b c n x2) (Q := fun x => Ex d am_M26 scr (PX_26_28 h b c n x2 x) res) (fun s o h1 ka kx => g_26_28 hd hb hh h1 ka kx) _ (0, B6) _ h15 ?_
    show Ex d am_M26 scr (64, [some (.ref b), none, some (.int x2), none], [], (hput h b (Bd.cells b B16)), c, n) res
    refine x_b 2 (S2 := (2, [some (.ref b), none, some (.int (x2 + 1)), none], [], (hput h b (Bd.cells b B16)), c, n)) rfl ?_
    refine x_fg (Lq.s (Lq.s (Lq.s (Lq.s Lq.nil)))) ?_
    exact ka ((x2 + 1), B16) (Option.some.inj hr).symm
/-- PebbleProofs$Board.closeStrategy(I)V -/
def F_26 (B : Bd) (x1 : Int32) : Option (Bd) :=
  (lw (G_26_2 ) 200000 (x1, B)).bind fun B19 =>
  (some (B19.w_strategyCount (B19.strategyCount - 1))).bind fun B21 =>
  some B21
theorem f_26 {d : Nat} (hd : 2 ≤ d) {scr : ASc} {res : ARe} {c n : Nat} {h : AHp} {b : Nat} (hb : b + 6 ≤ am_SB) (hh : b + 6 ≤ h.length) {B : Bd} {x1 : Int32} {o : Bd} (hr : F_26 B x1 = some o) (kr : res = (.inl (none), hput h b (Bd.cells b o), c, n)) : Ex d am_M26 scr (0, [some (.ref b), some (.int x1), none, none], [], (hput h b (Bd.cells b B)), c, n) res := by
  delta F_26 at hr
  refine x_b 2 (S2 := (2, [some (.ref b), some (.int x1), some (.int x1), none], [], (hput h b (Bd.cells b B)), c, n)) rfl ?_
  refine x_fg (Lq.s (Lq.n (Lq.s (Lq.s Lq.nil)))) ?_
  obtain ⟨B19, h18, hr⟩ := bd_some hr
  refine x_lw (P := P_26_2 h b c n ) (Q := fun x => Ex d am_M26 scr (PX_26_2 h b c n  x) res) (fun s o h1 ka kx => g_26_2 hd hb hh h1 ka kx) _ (x1, B) _ h18 ?_
  show Ex d am_M26 scr (70, [some (.ref b), none, none, none], [], (hput h b (Bd.cells b B19)), c, n) res
  refine x_ldan rfl rfl rfl (h_lt (i := 0) hb (by decide)) ?_
  refine x_b 1 (S2 := (72, [some (.ref b), none, none, none], [.ref b, .ref b], (hput h b (Bd.cells b B19)), c, n)) rfl ?_
  refine x_getf rfl rfl (h_lt (i := 0) hb (by decide)) (hp_at (i := 0) hh rfl rfl) rfl ?_
  refine x_b 2 (S2 := (77, [some (.ref b), none, none, none], [.int (B19.strategyCount - 1), .ref b], (hput h b (Bd.cells b B19)), c, n)) rfl ?_
  obtain ⟨B21, h22, hr⟩ := bd_some hr
  refine x_putf (H := (hput h b (Bd.cells b B21))) rfl rfl (h_lt (i := 0) hb (by decide)) (hp_at (i := 0) hh rfl rfl) ⟨(show 3 < 9 by decide), rfl, rfl, nofun⟩ (hp_set (i := 0) hh rfl (by decide) (Bd.s_strategyCount rfl h22)) ?_
  cases hr
  rw [kr]
  exact x_ret rfl rfl rfl
theorem m_26 {scr : ASc} {h : AHp} {b : Nat} (hb : b + 6 ≤ am_SB) (hh : b + 6 ≤ h.length) {B : Bd} {x1 : Int32} {o : Bd} (hr : F_26 B x1 = some o) : Rn scr 3 26 [.ref b, .int x1] (hput h b (Bd.cells b B)) (.inl (none), hput h b (Bd.cells b o), 0, 0) :=
  x_meth (M := am_M26) rfl (show 2 ≤ 4 by decide) (f_26 (Nat.le_refl _) hb hh hr rfl)
/-- PebbleProofs$FailingPiles.mark(I)V -/
def F_39 (B : FP) (x1 : Int32) : Option (FP) :=
  (ix ((x1 >>> (5 &&& 31)) &&& 1023) 1024).bind fun i1 =>
  (some (B.w_marks (upd B.marks i1 ((B.marks i1) ||| (1 <<< ((x1 &&& 31) &&& 31)))))).bind fun B3 =>
  some B3
theorem f_39 {d : Nat} (hd : 1 ≤ d) {scr : ASc} {res : ARe} {c n : Nat} {h : AHp} {b : Nat} (hb : b + 6 ≤ am_SB) (hh : b + 6 ≤ h.length) {B : FP} {x1 : Int32} {o : FP} (hr : F_39 B x1 = some o) (kr : res = (.inl (none), hput h b (FP.cells b o), c, n)) : Ex d am_M39 scr (0, [some (.ref b), some (.int x1)], [], (hput h b (FP.cells b B)), c, n) res := by
  delta F_39 at hr
  refine x_ldan rfl rfl rfl (h_lt (i := 0) hb (by decide)) ?_
  refine x_getf rfl rfl (h_lt (i := 0) hb (by decide)) (hp_at (i := 0) hh rfl rfl) rfl ?_
  refine x_b 6 (S2 := (12, [some (.ref b), some (.int x1)], [.int ((x1 >>> (5 &&& 31)) &&& 1023), .ref (b + 5), .int ((x1 >>> (5 &&& 31)) &&& 1023), .ref (b + 5)], (hput h b (FP.cells b B)), c, n)) rfl ?_
  obtain ⟨i1, h2, hr⟩ := bd_some hr
  refine x_iald rfl rfl (h_lt (i := 5) hb (by decide)) (hp_at (i := 5) hh rfl rfl) h2 ?_
  refine x_b 6 (S2 := (20, [some (.ref b), some (.int x1)], [.int ((B.marks i1) ||| (1 <<< ((x1 &&& 31) &&& 31))), .int ((x1 >>> (5 &&& 31)) &&& 1023), .ref (b + 5)], (hput h b (FP.cells b B)), c, n)) rfl ?_
  obtain ⟨B3, h4, hr⟩ := bd_some hr
  refine x_iast (H := (hput h b (FP.cells b B3))) rfl rfl (h_lt (i := 5) hb (by decide)) (hp_at (i := 5) hh rfl rfl) h2 (hp_set (i := 5) hh rfl (by decide) (FP.s_marks h4)) ?_
  cases hr
  rw [kr]
  exact x_ret rfl rfl rfl
theorem m_39 {scr : ASc} {h : AHp} {b : Nat} (hb : b + 6 ≤ am_SB) (hh : b + 6 ≤ h.length) {B : FP} {x1 : Int32} {o : FP} (hr : F_39 B x1 = some o) : Rn scr 2 39 [.ref b, .int x1] (hput h b (FP.cells b B)) (.inl (none), hput h b (FP.cells b o), 0, 0) :=
  x_meth (M := am_M39) rfl (show 2 ≤ 2 by decide) (f_39 (Nat.le_refl _) hb hh hr rfl)
def J_40_0_j27 (B : FP) (t0 : Int32) : Option (Int32) :=
  if t0 = 0 ∨ t0 = 1 then some t0 else none
theorem j_40_0_j27 {d : Nat} (hd : 1 ≤ d) {scr : ASc} {res : ARe} {c n : Nat} {H : AHp} {b : Nat} {B : FP} {t0 : Int32} (hR : Rg H b (FP.cells b B)) {o : Int32} (hr : J_40_0_j27 B t0 = some o) (kr : res = (.inl (some (.int o)), H, c, n)) : Ex d am_M40 scr (27, [none, none], [.int t0], H, c, n) res := by
  delta J_40_0_j27 at hr
  obtain ⟨h4, hr⟩ := itn_some hr
  cases hr
  rw [kr]
  exact x_ret rfl rfl (am_ret_z h4)
/-- PebbleProofs$FailingPiles.isMarked(I)Z -/
def F_40 (B : FP) (x1 : Int32) : Option (Int32) :=
  (ix ((x1 >>> (5 &&& 31)) &&& 1023) 1024).bind fun i1 =>
  if (((B.marks i1) >>> ((x1 &&& 31) &&& 31)) &&& 1) = 0 then
    J_40_0_j27 B 0
  else
    J_40_0_j27 B 1
theorem f_40 {d : Nat} (hd : 1 ≤ d) {scr : ASc} {res : ARe} {c n : Nat} {H : AHp} {b : Nat} {B : FP} {x1 : Int32} (hR : Rg H b (FP.cells b B)) {o : Int32} (hr : F_40 B x1 = some o) (kr : res = (.inl (some (.int o)), H, c, n)) : Ex d am_M40 scr (0, [some (.ref b), some (.int x1)], [], H, c, n) res := by
  delta F_40 at hr
  refine x_ldan rfl rfl rfl (hR.lt (i := 0) (show 0 < 6 by decide)) ?_
  refine x_getf rfl rfl (hR.lt (i := 0) (show 0 < 6 by decide)) (hR.at (i := 0) rfl) rfl ?_
  refine x_b 5 (S2 := (11, [some (.ref b), some (.int x1)], [.int ((x1 >>> (5 &&& 31)) &&& 1023), .ref (b + 5)], H, c, n)) rfl ?_
  obtain ⟨i1, h2, hr⟩ := bd_some hr
  refine x_iald rfl rfl (hR.lt (i := 5) (show 5 < 6 by decide)) (hR.at (i := 5) rfl) h2 ?_
  refine x_b 6 (S2 := (19, [some (.ref b), some (.int x1)], [.int (((B.marks i1) >>> ((x1 &&& 31) &&& 31)) &&& 1)], H, c, n)) rfl ?_
  rcases ite_some hr with ⟨h3, hr⟩ | ⟨h3, hr⟩
  · refine x_zt rfl rfl (decide_eq_true h3) ?_
    refine x_b 1 (S2 := (27, [some (.ref b), some (.int x1)], [.int 0], H, c, n)) rfl ?_
    refine x_fg (Lq.n (Lq.n Lq.nil)) ?_
    exact j_40_0_j27 hd hR hr kr
  · refine x_zf rfl rfl (decide_eq_false h3) ?_
    refine x_b 2 (S2 := (27, [some (.ref b), some (.int x1)], [.int 1], H, c, n)) rfl ?_
    refine x_fg (Lq.n (Lq.n Lq.nil)) ?_
    exact j_40_0_j27 hd hR hr kr
theorem m_40 {scr : ASc} {H : AHp} {b : Nat} {B : FP} {x1 : Int32} (hR : Rg H b (FP.cells b B)) {o : Int32} (hr : F_40 B x1 = some o) : Rn scr 2 40 [.ref b, .int x1] H (.inl (some (.int o)), H, 0, 0) :=
  x_meth (M := am_M40) rfl (show 2 ≤ 2 by decide) (f_40 (Nat.le_refl _) hR hr rfl)
/-- PebbleProofs$FailingPiles.pebblesOn(II)I -/
def F_41 (B : FP) (x1 : Int32) (x2 : Int32) : Option (Int32) :=
  (ix x2 6).bind fun i1 =>
  some ((x1 >>> ((B.shifts i1) &&& 31)) &&& (B.limits i1))
theorem f_41 {d : Nat} (hd : 1 ≤ d) {scr : ASc} {res : ARe} {c n : Nat} {H : AHp} {b : Nat} {B : FP} {x1 : Int32} {x2 : Int32} (hR : Rg H b (FP.cells b B)) {o : Int32} (hr : F_41 B x1 x2 = some o) (kr : res = (.inl (some (.int o)), H, c, n)) : Ex d am_M41 scr (0, [some (.ref b), some (.int x1), some (.int x2)], [], H, c, n) res := by
  delta F_41 at hr
  refine x_b 1 (S2 := (1, [some (.ref b), some (.int x1), some (.int x2)], [.int x1], H, c, n)) rfl ?_
  refine x_ldan rfl rfl rfl (hR.lt (i := 0) (show 0 < 6 by decide)) ?_
  refine x_getf rfl rfl (hR.lt (i := 0) (show 0 < 6 by decide)) (hR.at (i := 0) rfl) rfl ?_
  refine x_b 1 (S2 := (6, [some (.ref b), some (.int x1), some (.int x2)], [.int x2, .ref (b + 3), .int x1], H, c, n)) rfl ?_
  obtain ⟨i1, h2, hr⟩ := bd_some hr
  refine x_iald rfl rfl (hR.lt (i := 3) (show 3 < 6 by decide)) (hR.at (i := 3) rfl) h2 ?_
  refine x_b 1 (S2 := (8, [some (.ref b), some (.int x1), some (.int x2)], [.int (x1 >>> ((B.shifts i1) &&& 31))], H, c, n)) rfl ?_
  refine x_ldan rfl rfl rfl (hR.lt (i := 0) (show 0 < 6 by decide)) ?_
  refine x_getf rfl rfl (hR.lt (i := 0) (show 0 < 6 by decide)) (hR.at (i := 0) rfl) rfl ?_
  refine x_b 1 (S2 := (13, [some (.ref b), some (.int x1), some (.int x2)], [.int x2, .ref (b + 2), .int (x1 >>> ((B.shifts i1) &&& 31))], H, c, n)) rfl ?_
  refine x_iald rfl rfl (hR.lt (i := 2) (show 2 < 6 by decide)) (hR.at (i := 2) rfl) h2 ?_
  refine x_b 1 (S2 := (15, [some (.ref b), some (.int x1), some (.int x2)], [.int ((x1 >>> ((B.shifts i1) &&& 31)) &&& (B.limits i1))], H, c, n)) rfl ?_
  cases hr
  rw [kr]
  exact x_ret rfl rfl am_ret_i
theorem m_41 {scr : ASc} {H : AHp} {b : Nat} {B : FP} {x1 : Int32} {x2 : Int32} (hR : Rg H b (FP.cells b B)) {o : Int32} (hr : F_41 B x1 x2 = some o) : Rn scr 2 41 [.ref b, .int x1, .int x2] H (.inl (some (.int o)), H, 0, 0) :=
  x_meth (M := am_M41) rfl (show 3 ≤ 3 by decide) (f_41 (Nat.le_refl _) hR hr rfl)
def J_42_0_j25 (B : FP) (t0 : Int32) : Option (Int32) :=
  if t0 = 0 ∨ t0 = 1 then some t0 else none
theorem j_42_0_j25 {d : Nat} (hd : 1 ≤ d) {scr : ASc} {res : ARe} {c n : Nat} {H : AHp} {b : Nat} {B : FP} {t0 : Int32} (hR : Rg H b (FP.cells b B)) {o : Int32} (hr : J_42_0_j25 B t0 = some o) (kr : res = (.inl (some (.int o)), H, c, n)) : Ex d am_M42 scr (25, [none, none, none], [.int t0], H, c, n) res := by
  delta J_42_0_j25 at hr
  obtain ⟨h4, hr⟩ := itn_some hr
  cases hr
  rw [kr]
  exact x_ret rfl rfl (am_ret_z h4)
/-- PebbleProofs$FailingPiles.hasRoom(II)Z -/
def F_42 (B : FP) (x1 : Int32) (x2 : Int32) : Option (Int32) :=
  (ix x2 6).bind fun i1 =>
  if (((x1 ^^^ (-1)) >>> ((B.shifts i1) &&& 31)) &&& (B.limits i1)) = 0 then
    J_42_0_j25 B 0
  else
    J_42_0_j25 B 1
theorem f_42 {d : Nat} (hd : 1 ≤ d) {scr : ASc} {res : ARe} {c n : Nat} {H : AHp} {b : Nat} {B : FP} {x1 : Int32} {x2 : Int32} (hR : Rg H b (FP.cells b B)) {o : Int32} (hr : F_42 B x1 x2 = some o) (kr : res = (.inl (some (.int o)), H, c, n)) : Ex d am_M42 scr (0, [some (.ref b), some (.int x1), some (.int x2)], [], H, c, n) res := by
  delta F_42 at hr
  refine x_b 3 (S2 := (3, [some (.ref b), some (.int x1), some (.int x2)], [.int (x1 ^^^ (-1))], H, c, n)) rfl ?_
  refine x_ldan rfl rfl rfl (hR.lt (i := 0) (show 0 < 6 by decide)) ?_
  refine x_getf rfl rfl (hR.lt (i := 0) (show 0 < 6 by decide)) (hR.at (i := 0) rfl) rfl ?_
  refine x_b 1 (S2 := (8, [some (.ref b), some (.int x1), some (.int x2)], [.int x2, .ref (b + 3), .int (x1 ^^^ (-1))], H, c, n)) rfl ?_
  obtain ⟨i1, h2, hr⟩ := bd_some hr
  refine x_iald rfl rfl (hR.lt (i := 3) (show 3 < 6 by decide)) (hR.at (i := 3) rfl) h2 ?_
  refine x_b 1 (S2 := (10, [some (.ref b), some (.int x1), some (.int x2)], [.int ((x1 ^^^ (-1)) >>> ((B.shifts i1) &&& 31))], H, c, n)) rfl ?_
  refine x_ldan rfl rfl rfl (hR.lt (i := 0) (show 0 < 6 by decide)) ?_
  refine x_getf rfl rfl (hR.lt (i := 0) (show 0 < 6 by decide)) (hR.at (i := 0) rfl) rfl ?_
  refine x_b 1 (S2 := (15, [some (.ref b), some (.int x1), some (.int x2)], [.int x2, .ref (b + 2), .int ((x1 ^^^ (-1)) >>> ((B.shifts i1) &&& 31))], H, c, n)) rfl ?_
  refine x_iald rfl rfl (hR.lt (i := 2) (show 2 < 6 by decide)) (hR.at (i := 2) rfl) h2 ?_
  refine x_b 1 (S2 := (17, [some (.ref b), some (.int x1), some (.int x2)], [.int (((x1 ^^^ (-1)) >>> ((B.shifts i1) &&& 31)) &&& (B.limits i1))], H, c, n)) rfl ?_
  rcases ite_some hr with ⟨h3, hr⟩ | ⟨h3, hr⟩
  · refine x_zt rfl rfl (decide_eq_true h3) ?_
    refine x_b 1 (S2 := (25, [some (.ref b), some (.int x1), some (.int x2)], [.int 0], H, c, n)) rfl ?_
    refine x_fg (Lq.n (Lq.n (Lq.n Lq.nil))) ?_
    exact j_42_0_j25 hd hR hr kr
  · refine x_zf rfl rfl (decide_eq_false h3) ?_
    refine x_b 2 (S2 := (25, [some (.ref b), some (.int x1), some (.int x2)], [.int 1], H, c, n)) rfl ?_
    refine x_fg (Lq.n (Lq.n (Lq.n Lq.nil))) ?_
    exact j_42_0_j25 hd hR hr kr
theorem m_42 {scr : ASc} {H : AHp} {b : Nat} {B : FP} {x1 : Int32} {x2 : Int32} (hR : Rg H b (FP.cells b B)) {o : Int32} (hr : F_42 B x1 x2 = some o) : Rn scr 2 42 [.ref b, .int x1, .int x2] H (.inl (some (.int o)), H, 0, 0) :=
  x_meth (M := am_M42) rfl (show 3 ≤ 3 by decide) (f_42 (Nat.le_refl _) hR hr rfl)
abbrev P_47_14 (H : AHp) (b : Nat) (c n : Nat) (B : FP) (x1 : Int32) (x2 : Int32) (x3 : Int32) (s : Int32) : ASt := (14, [some (.ref b), some (.int x1), some (.int x2), some (.int x3), some (.int s)], [], H, c, n)
abbrev PX_47_14 (H : AHp) (b : Nat) (c n : Nat) (B : FP) (x1 : Int32) (x2 : Int32) (x3 : Int32) (s : Unit) : ASt := (73, [none, none, none, none, none], [], H, c, n)
def J_47_14_j67 (B : FP) (x1 : Int32) (x2 : Int32) (x3 : Int32) (x4 : Int32) : Option ((Int32) ⊕ (Unit) ⊕ (Int32)) :=
  some (.inl (x4 + 1))
theorem j_47_14_j67 {d : Nat} (hd : 2 ≤ d) {scr : ASc} {res : ARe} {c n : Nat} {H : AHp} {b : Nat} {B : FP} {x1 : Int32} {x2 : Int32} {x3 : Int32} {x4 : Int32} (hR : Rg H b (FP.cells b B)) {o : (Int32) ⊕ (Unit) ⊕ (Int32)} (hr : J_47_14_j67 B x1 x2 x3 x4 = some o) (ka : ∀ s, o = .inl s → Ex d am_M47 scr (P_47_14 H b c n B x1 x2 x3 s) res) (kx : ∀ s, o = .inr (.inl s) → Ex d am_M47 scr (PX_47_14 H b c n B x1 x2 x3 s) res) (kr : ∀ r, o = .inr (.inr r) → res = (.inl (some (.int r)), H, c, n)) : Ex d am_M47 scr (67, [some (.ref b), some (.int x1), some (.int x2), some (.int x3), some (.int x4)], [], H, c, n) res := by
  delta J_47_14_j67 at hr
  refine x_b 2 (S2 := (14, [some (.ref b), some (.int x1), some (.int x2), some (.int x3), some (.int (x4 + 1))], [], H, c, n)) rfl ?_
  refine x_fg (Lq.s (Lq.s (Lq.s (Lq.s (Lq.s Lq.nil))))) ?_
  exact ka (x4 + 1) (Option.some.inj hr).symm
def J_47_14_j65 (B : FP) (x1 : Int32) (x2 : Int32) (x3 : Int32) : Option ((Int32) ⊕ (Unit) ⊕ (Int32)) :=
  some (.inr (.inr 0))
theorem j_47_14_j65 {d : Nat} (hd : 2 ≤ d) {scr : ASc} {res : ARe} {c n : Nat} {H : AHp} {b : Nat} {B : FP} {x1 : Int32} {x2 : Int32} {x3 : Int32} (hR : Rg H b (FP.cells b B)) {o : (Int32) ⊕ (Unit) ⊕ (Int32)} (hr : J_47_14_j65 B x1 x2 x3 = some o) (ka : ∀ s, o = .inl s → Ex d am_M47 scr (P_47_14 H b c n B x1 x2 x3 s) res) (kx : ∀ s, o = .inr (.inl s) → Ex d am_M47 scr (PX_47_14 H b c n B x1 x2 x3 s) res) (kr : ∀ r, o = .inr (.inr r) → res = (.inl (some (.int r)), H, c, n)) : Ex d am_M47 scr (65, [none, none, none, none, none], [], H, c, n) res := by
  delta J_47_14_j65 at hr
  refine x_b 1 (S2 := (66, [none, none, none, none, none], [.int 0], H, c, n)) rfl ?_
  rw [kr _ (Option.some.inj hr).symm]
  exact x_ret rfl rfl (am_ret_z (by decide))
def G_47_14 (B : FP) (x1 : Int32) (x2 : Int32) (x3 : Int32) (s : Int32) : Option ((Int32) ⊕ (Unit) ⊕ (Int32)) := 
  match s with
  | x4 =>
    if B.vertices ≤ x4 then
      some (.inr (.inl ()))
    else
      (ix x1 6).bind fun i4 =>
      if (((B.near i4) >>> (x4 &&& 31)) &&& 1) = 0 then
        J_47_14_j67 B x1 x2 x3 x4
      else
        (F_42 B x2 x4).bind fun v8 =>
        if v8 = 0 then
          J_47_14_j65 B x1 x2 x3
        else
          (ix x4 6).bind fun i11 =>
          (F_40 B (x3 + (1 <<< ((B.shifts i11) &&& 31)))).bind fun v14 =>
          if ¬ v14 = 0 then
            J_47_14_j67 B x1 x2 x3 x4
          else
            J_47_14_j65 B x1 x2 x3
theorem g_47_14 {d : Nat} (hd : 2 ≤ d) {scr : ASc} {res : ARe} {c n : Nat} {H : AHp} {b : Nat} {B : FP} {x1 : Int32} {x2 : Int32} {x3 : Int32} (hR : Rg H b (FP.cells b B)) {s : Int32} {o : (Int32) ⊕ (Unit) ⊕ (Int32)} (hr : G_47_14 B x1 x2 x3 s = some o) (ka : ∀ s, o = .inl s → Ex d am_M47 scr (P_47_14 H b c n B x1 x2 x3 s) res) (kx : ∀ s, o = .inr (.inl s) → Ex d am_M47 scr (PX_47_14 H b c n B x1 x2 x3 s) res) (kr : ∀ r, o = .inr (.inr r) → res = (.inl (some (.int r)), H, c, n)) : Ex d am_M47 scr (P_47_14 H b c n B x1 x2 x3 s) res := by
  delta G_47_14 at hr
  show Ex d am_M47 scr (14, [some (.ref b), some (.int x1), some (.int x2), some (.int x3), some (.int s)], [], H, c, n) res
  refine x_b 1 (S2 := (16, [some (.ref b), some (.int x1), some (.int x2), some (.int x3), some (.int s)], [.int s], H, c, n)) rfl ?_
  refine x_ldan rfl rfl rfl (hR.lt (i := 0) (show 0 < 6 by decide)) ?_
  refine x_getf rfl rfl (hR.lt (i := 0) (show 0 < 6 by decide)) (hR.at (i := 0) rfl) rfl ?_
  rcases ite_some hr with ⟨h3, hr⟩ | ⟨h3, hr⟩
  · refine x_ct rfl rfl (decide_eq_true h3) ?_
    refine x_fg (Lq.n (Lq.n (Lq.n (Lq.n (Lq.n Lq.nil))))) ?_
    exact kx () (Option.some.inj hr).symm
  · refine x_cf rfl rfl (decide_eq_false h3) ?_
    refine x_ldan rfl rfl rfl (hR.lt (i := 0) (show 0 < 6 by decide)) ?_
    refine x_getf rfl rfl (hR.lt (i := 0) (show 0 < 6 by decide)) (hR.at (i := 0) rfl) rfl ?_
    refine x_b 1 (S2 := (28, [some (.ref b), some (.int x1), some (.int x2), some (.int x3), some (.int s)], [.int x1, .ref (b + 4)], H, c, n)) rfl ?_
    obtain ⟨i4, h5, hr⟩ := bd_some hr
    refine x_iald rfl rfl (hR.lt (i := 4) (show 4 < 6 by decide)) (hR.at (i := 4) rfl) h5 ?_
    refine x_b 4 (S2 := (34, [some (.ref b), some (.int x1), some (.int x2), some (.int x3), some (.int s)], [.int (((B.near i4) >>> (s &&& 31)) &&& 1)], H, c, n)) rfl ?_
    rcases ite_some hr with ⟨h6, hr⟩ | ⟨h6, hr⟩
    · refine x_zt rfl rfl (decide_eq_true h6) ?_
      refine x_fg (Lq.s (Lq.s (Lq.s (Lq.s (Lq.s Lq.nil))))) ?_
      exact j_47_14_j67 hd hR hr ka kx kr
    · refine x_zf rfl rfl (decide_eq_false h6) ?_
      refine x_ldan rfl rfl rfl (hR.lt (i := 0) (show 0 < 6 by decide)) ?_
      refine x_b 2 (S2 := (41, [some (.ref b), some (.int x1), some (.int x2), some (.int x3), some (.int s)], [.int s, .int x2, .ref b], H, c, n)) rfl ?_
      obtain ⟨v8, h7, hr⟩ := bd_some hr
      refine x_c0 (m_42 hR h7) rfl rfl rfl rfl (am_recv_v (hR.lt (i := 0) (show 0 < 6 by decide)) (hR.at (i := 0) rfl) rfl) (by omega) ?_
      rcases ite_some hr with ⟨h9, hr⟩ | ⟨h9, hr⟩
      · refine x_zt rfl rfl (decide_eq_true h9) ?_
        refine x_fg (Lq.n (Lq.n (Lq.n (Lq.n (Lq.n Lq.nil))))) ?_
        exact j_47_14_j65 hd hR hr ka kx kr
      · refine x_zf rfl rfl (decide_eq_false h9) ?_
        refine x_ldan rfl rfl rfl (hR.lt (i := 0) (show 0 < 6 by decide)) ?_
        refine x_b 2 (S2 := (50, [some (.ref b), some (.int x1), some (.int x2), some (.int x3), some (.int s)], [.int 1, .int x3, .ref b], H, c, n)) rfl ?_
        refine x_ldan rfl rfl rfl (hR.lt (i := 0) (show 0 < 6 by decide)) ?_
        refine x_getf rfl rfl (hR.lt (i := 0) (show 0 < 6 by decide)) (hR.at (i := 0) rfl) rfl ?_
        refine x_b 1 (S2 := (56, [some (.ref b), some (.int x1), some (.int x2), some (.int x3), some (.int s)], [.int s, .ref (b + 3), .int 1, .int x3, .ref b], H, c, n)) rfl ?_
        obtain ⟨i11, h12, hr⟩ := bd_some hr
        refine x_iald rfl rfl (hR.lt (i := 3) (show 3 < 6 by decide)) (hR.at (i := 3) rfl) h12 ?_
        refine x_b 2 (S2 := (59, [some (.ref b), some (.int x1), some (.int x2), some (.int x3), some (.int s)], [.int (x3 + (1 <<< ((B.shifts i11) &&& 31))), .ref b], H, c, n)) rfl ?_
        obtain ⟨v14, h13, hr⟩ := bd_some hr
        refine x_c0 (m_40 hR h13) rfl rfl rfl rfl (am_recv_v (hR.lt (i := 0) (show 0 < 6 by decide)) (hR.at (i := 0) rfl) rfl) (by omega) ?_
        rcases ite_some hr with ⟨h15, hr⟩ | ⟨h15, hr⟩
        · refine x_zt rfl rfl (decide_eq_true h15) ?_
          refine x_fg (Lq.s (Lq.s (Lq.s (Lq.s (Lq.s Lq.nil))))) ?_
          exact j_47_14_j67 hd hR hr ka kx kr
        · refine x_zf rfl rfl (decide_eq_false h15) ?_
          refine x_fg (Lq.n (Lq.n (Lq.n (Lq.n (Lq.n Lq.nil))))) ?_
          exact j_47_14_j65 hd hR hr ka kx kr
/-- PebbleProofs$FailingPiles.failsAfterMoveFrom(II)Z -/
def F_47 (B : FP) (x1 : Int32) (x2 : Int32) : Option (Int32) :=
  (ix x1 6).bind fun i1 =>
  (lw (G_47_14 B x1 x2 (x2 - (2 <<< ((B.shifts i1) &&& 31)))) 200000 0).bind fun r =>
    match r with
    | .inr r19 => some r19
    | .inl _ =>
      some 1
theorem f_47 {d : Nat} (hd : 2 ≤ d) {scr : ASc} {res : ARe} {c n : Nat} {H : AHp} {b : Nat} {B : FP} {x1 : Int32} {x2 : Int32} (hR : Rg H b (FP.cells b B)) {o : Int32} (hr : F_47 B x1 x2 = some o) (kr : res = (.inl (some (.int o)), H, c, n)) : Ex d am_M47 scr (0, [some (.ref b), some (.int x1), some (.int x2), none, none], [], H, c, n) res := by
  delta F_47 at hr
  refine x_b 2 (S2 := (2, [some (.ref b), some (.int x1), some (.int x2), none, none], [.int 2, .int x2], H, c, n)) rfl ?_
  refine x_ldan rfl rfl rfl (hR.lt (i := 0) (show 0 < 6 by decide)) ?_
  refine x_getf rfl rfl (hR.lt (i := 0) (show 0 < 6 by decide)) (hR.at (i := 0) rfl) rfl ?_
  refine x_b 1 (S2 := (7, [some (.ref b), some (.int x1), some (.int x2), none, none], [.int x1, .ref (b + 3), .int 2, .int x2], H, c, n)) rfl ?_
  obtain ⟨i1, h2, hr⟩ := bd_some hr
  refine x_iald rfl rfl (hR.lt (i := 3) (show 3 < 6 by decide)) (hR.at (i := 3) rfl) h2 ?_
  refine x_b 5 (S2 := (14, [some (.ref b), some (.int x1), some (.int x2), some (.int (x2 - (2 <<< ((B.shifts i1) &&& 31)))), some (.int 0)], [], H, c, n)) rfl ?_
  refine x_fg (Lq.s (Lq.s (Lq.s (Lq.s (Lq.s Lq.nil))))) ?_
  obtain ⟨o17, h16, hr⟩ := bd_some hr
  refine x_lw (P := P_47_14 H b c n B x1 x2 (x2 - (2 <<< ((B.shifts i1) &&& 31)))) (Q := fun x => match x with | .inl e => Ex d am_M47 scr (PX_47_14 H b c n B x1 x2 (x2 - (2 <<< ((B.shifts i1) &&& 31))) e) res | .inr r => res = (.inl (some (.int r)), H, c, n)) (fun s o h1 ka kx => g_47_14 hd hR h1 ka (fun e he => kx (.inl e) he) (fun r he => kx (.inr r) he)) _ 0 _ h16 ?_
  rcases o17 with e | r19
  · show Ex d am_M47 scr (73, [none, none, none, none, none], [], H, c, n) res
    refine x_b 1 (S2 := (74, [none, none, none, none, none], [.int 1], H, c, n)) rfl ?_
    cases hr
    rw [kr]
    exact x_ret rfl rfl (am_ret_z (by decide))
  · cases hr; exact kr
theorem m_47 {scr : ASc} {H : AHp} {b : Nat} {B : FP} {x1 : Int32} {x2 : Int32} (hR : Rg H b (FP.cells b B)) {o : Int32} (hr : F_47 B x1 x2 = some o) : Rn scr 3 47 [.ref b, .int x1, .int x2] H (.inl (some (.int o)), H, 0, 0) :=
  x_meth (M := am_M47) rfl (show 3 ≤ 5 by decide) (f_47 (Nat.le_refl _) hR hr rfl)
abbrev P_46_2 (H : AHp) (b : Nat) (c n : Nat) (B : FP) (x1 : Int32) (s : Int32) : ASt := (2, [some (.ref b), some (.int x1), some (.int s)], [], H, c, n)
abbrev PX_46_2 (H : AHp) (b : Nat) (c n : Nat) (B : FP) (x1 : Int32) (s : Unit) : ASt := (37, [none, none, none], [], H, c, n)
def J_46_2_j31 (B : FP) (x1 : Int32) (x2 : Int32) : Option ((Int32) ⊕ (Unit) ⊕ (Int32)) :=
  some (.inl (x2 + 1))
theorem j_46_2_j31 {d : Nat} (hd : 3 ≤ d) {scr : ASc} {res : ARe} {c n : Nat} {H : AHp} {b : Nat} {B : FP} {x1 : Int32} {x2 : Int32} (hR : Rg H b (FP.cells b B)) {o : (Int32) ⊕ (Unit) ⊕ (Int32)} (hr : J_46_2_j31 B x1 x2 = some o) (ka : ∀ s, o = .inl s → Ex d am_M46 scr (P_46_2 H b c n B x1 s) res) (kx : ∀ s, o = .inr (.inl s) → Ex d am_M46 scr (PX_46_2 H b c n B x1 s) res) (kr : ∀ r, o = .inr (.inr r) → res = (.inl (some (.int r)), H, c, n)) : Ex d am_M46 scr (31, [some (.ref b), some (.int x1), some (.int x2)], [], H, c, n) res := by
  delta J_46_2_j31 at hr
  refine x_b 2 (S2 := (2, [some (.ref b), some (.int x1), some (.int (x2 + 1))], [], H, c, n)) rfl ?_
  refine x_fg (Lq.s (Lq.s (Lq.s Lq.nil))) ?_
  exact ka (x2 + 1) (Option.some.inj hr).symm
def G_46_2 (B : FP) (x1 : Int32) (s : Int32) : Option ((Int32) ⊕ (Unit) ⊕ (Int32)) := 
  match s with
  | x2 =>
    if B.vertices ≤ x2 then
      some (.inr (.inl ()))
    else
      (F_41 B x1 x2).bind fun v3 =>
      if v3 < 2 then
        J_46_2_j31 B x1 x2
      else
        (F_47 B x2 x1).bind fun v6 =>
        if ¬ v6 = 0 then
          J_46_2_j31 B x1 x2
        else
          some (.inr (.inr 0))
theorem g_46_2 {d : Nat} (hd : 3 ≤ d) {scr : ASc} {res : ARe} {c n : Nat} {H : AHp} {b : Nat} {B : FP} {x1 : Int32} (hR : Rg H b (FP.cells b B)) {s : Int32} {o : (Int32) ⊕ (Unit) ⊕ (Int32)} (hr : G_46_2 B x1 s = some o) (ka : ∀ s, o = .inl s → Ex d am_M46 scr (P_46_2 H b c n B x1 s) res) (kx : ∀ s, o = .inr (.inl s) → Ex d am_M46 scr (PX_46_2 H b c n B x1 s) res) (kr : ∀ r, o = .inr (.inr r) → res = (.inl (some (.int r)), H, c, n)) : Ex d am_M46 scr (P_46_2 H b c n B x1 s) res := by
  delta G_46_2 at hr
  show Ex d am_M46 scr (2, [some (.ref b), some (.int x1), some (.int s)], [], H, c, n) res
  refine x_b 1 (S2 := (3, [some (.ref b), some (.int x1), some (.int s)], [.int s], H, c, n)) rfl ?_
  refine x_ldan rfl rfl rfl (hR.lt (i := 0) (show 0 < 6 by decide)) ?_
  refine x_getf rfl rfl (hR.lt (i := 0) (show 0 < 6 by decide)) (hR.at (i := 0) rfl) rfl ?_
  rcases ite_some hr with ⟨h1, hr⟩ | ⟨h1, hr⟩
  · refine x_ct rfl rfl (decide_eq_true h1) ?_
    refine x_fg (Lq.n (Lq.n (Lq.n Lq.nil))) ?_
    exact kx () (Option.some.inj hr).symm
  · refine x_cf rfl rfl (decide_eq_false h1) ?_
    refine x_ldan rfl rfl rfl (hR.lt (i := 0) (show 0 < 6 by decide)) ?_
    refine x_b 2 (S2 := (13, [some (.ref b), some (.int x1), some (.int s)], [.int s, .int x1, .ref b], H, c, n)) rfl ?_
    obtain ⟨v3, h2, hr⟩ := bd_some hr
    refine x_c0 (m_41 hR h2) rfl rfl rfl rfl (am_recv_v (hR.lt (i := 0) (show 0 < 6 by decide)) (hR.at (i := 0) rfl) rfl) (by omega) ?_
    refine x_b 1 (S2 := (17, [some (.ref b), some (.int x1), some (.int s)], [.int 2, .int v3], H, c, n)) rfl ?_
    rcases ite_some hr with ⟨h4, hr⟩ | ⟨h4, hr⟩
    · refine x_ct rfl rfl (decide_eq_true h4) ?_
      refine x_fg (Lq.s (Lq.s (Lq.s Lq.nil))) ?_
      exact j_46_2_j31 hd hR hr ka kx kr
    · refine x_cf rfl rfl (decide_eq_false h4) ?_
      refine x_ldan rfl rfl rfl (hR.lt (i := 0) (show 0 < 6 by decide)) ?_
      refine x_b 2 (S2 := (23, [some (.ref b), some (.int x1), some (.int s)], [.int x1, .int s, .ref b], H, c, n)) rfl ?_
      obtain ⟨v6, h5, hr⟩ := bd_some hr
      refine x_c0 (m_47 hR h5) rfl rfl rfl rfl (am_recv_v (hR.lt (i := 0) (show 0 < 6 by decide)) (hR.at (i := 0) rfl) rfl) (by omega) ?_
      rcases ite_some hr with ⟨h7, hr⟩ | ⟨h7, hr⟩
      · refine x_zt rfl rfl (decide_eq_true h7) ?_
        refine x_fg (Lq.s (Lq.s (Lq.s Lq.nil))) ?_
        exact j_46_2_j31 hd hR hr ka kx kr
      · refine x_zf rfl rfl (decide_eq_false h7) ?_
        refine x_b 1 (S2 := (30, [some (.ref b), some (.int x1), some (.int s)], [.int 0], H, c, n)) rfl ?_
        rw [kr _ (Option.some.inj hr).symm]
        exact x_ret rfl rfl (am_ret_z (by decide))
/-- PebbleProofs$FailingPiles.fails(I)Z -/
def F_46 (B : FP) (x1 : Int32) : Option (Int32) :=
  (lw (G_46_2 B x1) 200000 0).bind fun r =>
    match r with
    | .inr r12 => some r12
    | .inl _ =>
      some 1
theorem f_46 {d : Nat} (hd : 3 ≤ d) {scr : ASc} {res : ARe} {c n : Nat} {H : AHp} {b : Nat} {B : FP} {x1 : Int32} (hR : Rg H b (FP.cells b B)) {o : Int32} (hr : F_46 B x1 = some o) (kr : res = (.inl (some (.int o)), H, c, n)) : Ex d am_M46 scr (0, [some (.ref b), some (.int x1), none], [], H, c, n) res := by
  delta F_46 at hr
  refine x_b 2 (S2 := (2, [some (.ref b), some (.int x1), some (.int 0)], [], H, c, n)) rfl ?_
  refine x_fg (Lq.s (Lq.s (Lq.s Lq.nil))) ?_
  obtain ⟨o10, h9, hr⟩ := bd_some hr
  refine x_lw (P := P_46_2 H b c n B x1) (Q := fun x => match x with | .inl e => Ex d am_M46 scr (PX_46_2 H b c n B x1 e) res | .inr r => res = (.inl (some (.int r)), H, c, n)) (fun s o h1 ka kx => g_46_2 hd hR h1 ka (fun e he => kx (.inl e) he) (fun r he => kx (.inr r) he)) _ 0 _ h9 ?_
  rcases o10 with e | r12
  · show Ex d am_M46 scr (37, [none, none, none], [], H, c, n) res
    refine x_b 1 (S2 := (38, [none, none, none], [.int 1], H, c, n)) rfl ?_
    cases hr
    rw [kr]
    exact x_ret rfl rfl (am_ret_z (by decide))
  · cases hr; exact kr
theorem m_46 {scr : ASc} {H : AHp} {b : Nat} {B : FP} {x1 : Int32} (hR : Rg H b (FP.cells b B)) {o : Int32} (hr : F_46 B x1 = some o) : Rn scr 4 46 [.ref b, .int x1] H (.inl (some (.int o)), H, 0, 0) :=
  x_meth (M := am_M46) rfl (show 2 ≤ 3 by decide) (f_46 (Nat.le_refl _) hR hr rfl)
abbrev P_63_5 (H : AHp) (c n : Nat) (x0 : Int32) (s : Int32 × Int32) : ASt := (5, [some (.int x0), some (.int s.1), some (.int s.2)], [], H, c, n)
abbrev PX_63_5 (H : AHp) (c n : Nat) (x0 : Int32) (s : Int32) : ASt := (28, [none, some (.int s), none], [], H, c, n)
def J_63_5_j22 (x0 : Int32) (x1 : Int32) (x2 : Int32) : Option ((Int32 × Int32) ⊕ (Int32)) :=
  some (.inl (x1, (x2 + (-8))))
theorem j_63_5_j22 {d : Nat} (hd : 1 ≤ d) {scr : ASc} {res : ARe} {c n : Nat} {H : AHp} {x0 : Int32} {x1 : Int32} {x2 : Int32} {o : (Int32 × Int32) ⊕ (Int32)} (hr : J_63_5_j22 x0 x1 x2 = some o) (ka : ∀ s, o = .inl s → Ex d am_M63 scr (P_63_5 H c n x0 s) res) (kx : ∀ s, o = .inr s → Ex d am_M63 scr (PX_63_5 H c n x0 s) res) : Ex d am_M63 scr (22, [some (.int x0), some (.int x1), some (.int x2)], [], H, c, n) res := by
  delta J_63_5_j22 at hr
  refine x_b 2 (S2 := (5, [some (.int x0), some (.int x1), some (.int (x2 + (-8)))], [], H, c, n)) rfl ?_
  refine x_fg (Lq.s (Lq.s (Lq.s Lq.nil))) ?_
  exact ka (x1, (x2 + (-8))) (Option.some.inj hr).symm
def G_63_5 (x0 : Int32) (s : Int32 × Int32) : Option ((Int32 × Int32) ⊕ (Int32)) := 
  match s with
  | (x1, x2) =>
    if x2 < 0 then
      some (.inr x1)
    else
      if ((x0 >>> (x2 &&& 31)) &&& 255) = 0 then
        J_63_5_j22 x0 x1 x2
      else
        J_63_5_j22 x0 (x1 + 1) x2
theorem g_63_5 {d : Nat} (hd : 1 ≤ d) {scr : ASc} {res : ARe} {c n : Nat} {H : AHp} {x0 : Int32} {s : Int32 × Int32} {o : (Int32 × Int32) ⊕ (Int32)} (hr : G_63_5 x0 s = some o) (ka : ∀ s, o = .inl s → Ex d am_M63 scr (P_63_5 H c n x0 s) res) (kx : ∀ s, o = .inr s → Ex d am_M63 scr (PX_63_5 H c n x0 s) res) : Ex d am_M63 scr (P_63_5 H c n x0 s) res := by
  obtain ⟨x1, x2⟩ := s
  delta G_63_5 at hr
  show Ex d am_M63 scr (5, [some (.int x0), some (.int x1), some (.int x2)], [], H, c, n) res
  refine x_b 1 (S2 := (6, [some (.int x0), some (.int x1), some (.int x2)], [.int x2], H, c, n)) rfl ?_
  rcases ite_some hr with ⟨h1, hr⟩ | ⟨h1, hr⟩
  · refine x_zt rfl rfl (decide_eq_true h1) ?_
    refine x_fg (Lq.n (Lq.s (Lq.n Lq.nil))) ?_
    exact kx x1 (Option.some.inj hr).symm
  · refine x_zf rfl rfl (decide_eq_false h1) ?_
    refine x_b 5 (S2 := (16, [some (.int x0), some (.int x1), some (.int x2)], [.int ((x0 >>> (x2 &&& 31)) &&& 255)], H, c, n)) rfl ?_
    rcases ite_some hr with ⟨h2, hr⟩ | ⟨h2, hr⟩
    · refine x_zt rfl rfl (decide_eq_true h2) ?_
      refine x_fg (Lq.s (Lq.s (Lq.s Lq.nil))) ?_
      exact j_63_5_j22 hd hr ka kx
    · refine x_zf rfl rfl (decide_eq_false h2) ?_
      refine x_b 1 (S2 := (22, [some (.int x0), some (.int (x1 + 1)), some (.int x2)], [], H, c, n)) rfl ?_
      refine x_fg (Lq.s (Lq.s (Lq.s Lq.nil))) ?_
      exact j_63_5_j22 hd hr ka kx
/-- PebbleProofs$SetupText.bytesIn(I)I -/
def F_63 (x0 : Int32) : Option (Int32) :=
  (lw (G_63_5 x0) 200000 (0, 24)).bind fun v4 =>
  some v4
theorem f_63 {d : Nat} (hd : 1 ≤ d) {scr : ASc} {res : ARe} {c n : Nat} {H : AHp} {x0 : Int32} {o : Int32} (hr : F_63 x0 = some o) (kr : res = (.inl (some (.int o)), H, c, n)) : Ex d am_M63 scr (0, [some (.int x0), none, none], [], H, c, n) res := by
  delta F_63 at hr
  refine x_b 4 (S2 := (5, [some (.int x0), some (.int 0), some (.int 24)], [], H, c, n)) rfl ?_
  refine x_fg (Lq.s (Lq.s (Lq.s Lq.nil))) ?_
  obtain ⟨v4, h3, hr⟩ := bd_some hr
  refine x_lw (P := P_63_5 H c n x0) (Q := fun x => Ex d am_M63 scr (PX_63_5 H c n x0 x) res) (fun s o h1 ka kx => g_63_5 hd h1 ka kx) _ (0, 24) _ h3 ?_
  show Ex d am_M63 scr (28, [none, some (.int v4), none], [], H, c, n) res
  refine x_b 1 (S2 := (29, [none, some (.int v4), none], [.int v4], H, c, n)) rfl ?_
  cases hr
  rw [kr]
  exact x_ret rfl rfl am_ret_i
theorem m_63 {scr : ASc} {H : AHp} {x0 : Int32} {o : Int32} (hr : F_63 x0 = some o) : Rn scr 2 63 [.int x0] H (.inl (some (.int o)), H, 0, 0) :=
  x_meth (M := am_M63) rfl (show 1 ≤ 3 by decide) (f_63 (Nat.le_refl _) hr rfl)
