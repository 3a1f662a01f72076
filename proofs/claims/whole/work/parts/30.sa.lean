abbrev P_261_5 (h : AHp) (b : Nat) (c n : Nat) (N : Nat) (x1 : Int32) (x3 : Int32) (s : Int32 × (Nat → Int32)) : ASt := (5, [some (.ref b), some (.int x1), some (.int s.1), some (.int x3)], [], (hput h b (Ar.cells N s.2)), c, n)
abbrev PX_261_5 (h : AHp) (b : Nat) (c n : Nat) (N : Nat) (x1 : Int32) (x3 : Int32) (s : (Nat → Int32)) : ASt := (20, [none, none, none, none], [], (hput h b (Ar.cells N s)), c, n)
def G_261_5 (N : Nat) (x1 : Int32) (x3 : Int32) (s : Int32 × (Nat → Int32)) : Option ((Int32 × (Nat → Int32)) ⊕ ((Nat → Int32))) := 
  match s with
  | (x2, B) =>
    if x3 ≤ x2 then
      some (.inr B)
    else
      (ix x2 N).bind fun i2 =>
      (some (upd B i2 x1)).bind fun B4 =>
      some (.inl ((x2 + 1), B4))
theorem g_261_5 {d : Nat} (hd : 1 ≤ d) {scr : ASc} {res : ARe} {c n : Nat} {h : AHp} {b : Nat} (hb : b + 1 ≤ am_SB) (hh : b + 1 ≤ h.length) {N : Nat} {x1 : Int32} {x3 : Int32} {s : Int32 × (Nat → Int32)} {o : (Int32 × (Nat → Int32)) ⊕ ((Nat → Int32))} (hr : G_261_5 N x1 x3 s = some o) (ka : ∀ s, o = .inl s → Ex d am_M261 scr (P_261_5 h b c n N x1 x3 s) res) (kx : ∀ s, o = .inr s → Ex d am_M261 scr (PX_261_5 h b c n N x1 x3 s) res) : Ex d am_M261 scr (P_261_5 h b c n N x1 x3 s) res := by
  obtain ⟨x2, B⟩ := s
  delta G_261_5 at hr
  show Ex d am_M261 scr (5, [some (.ref b), some (.int x1), some (.int x2), some (.int x3)], [], (hput h b (Ar.cells N B)), c, n) res
  refine x_b 2 (S2 := (7, [some (.ref b), some (.int x1), some (.int x2), some (.int x3)], [.int x3, .int x2], (hput h b (Ar.cells N B)), c, n)) rfl ?_
  rcases ite_some hr with ⟨h1, hr⟩ | ⟨h1, hr⟩
  · refine x_ct rfl rfl (decide_eq_true h1) ?_
    refine x_fg (Lq.n (Lq.n (Lq.n (Lq.n Lq.nil)))) ?_
    exact kx B (Option.some.inj hr).symm
  · refine x_cf rfl rfl (decide_eq_false h1) ?_
    refine x_ldan rfl rfl rfl (h_lt (i := 0) hb (by decide)) ?_
    refine x_b 2 (S2 := (13, [some (.ref b), some (.int x1), some (.int x2), some (.int x3)], [.int x1, .int x2, .ref b], (hput h b (Ar.cells N B)), c, n)) rfl ?_
    obtain ⟨i2, h3, hr⟩ := bd_some hr
    obtain ⟨B4, h5, hr⟩ := bd_some hr
    refine x_iast (H := (hput h b (Ar.cells N B4))) rfl rfl (h_lt (i := 0) hb (by decide)) (hp_at (i := 0) hh rfl rfl) h3 (hp_set (i := 0) hh rfl (by decide) (Ar.s_ h5)) ?_
    refine x_b 2 (S2 := (5, [some (.ref b), some (.int x1), some (.int (x2 + 1)), some (.int x3)], [], (hput h b (Ar.cells N B4)), c, n)) rfl ?_
    refine x_fg (Lq.s (Lq.s (Lq.s (Lq.s Lq.nil)))) ?_
    exact ka ((x2 + 1), B4) (Option.some.inj hr).symm
/-- java/util/Arrays.fill([II)V -/
def F_261 (N : Nat) (B : Nat → Int32) (x1 : Int32) : Option (Nat → Int32) :=
  (lw (G_261_5 N x1 (Int32.ofNat N)) 200000 (0, B)).bind fun B7 =>
  some B7
theorem f_261 {d : Nat} (hd : 1 ≤ d) {scr : ASc} {res : ARe} {c n : Nat} {h : AHp} {b : Nat} (hb : b + 1 ≤ am_SB) (hh : b + 1 ≤ h.length) {N : Nat} {B : Nat → Int32} {x1 : Int32} {o : Nat → Int32} (hr : F_261 N B x1 = some o) (kr : res = (.inl (none), hput h b (Ar.cells N o), c, n)) : Ex d am_M261 scr (0, [some (.ref b), some (.int x1), none, none], [], (hput h b (Ar.cells N B)), c, n) res := by
  delta F_261 at hr
  refine x_b 2 (S2 := (2, [some (.ref b), some (.int x1), some (.int 0), none], [], (hput h b (Ar.cells N B)), c, n)) rfl ?_
  refine x_ldan rfl rfl rfl (h_lt (i := 0) hb (by decide)) ?_
  refine x_alen rfl rfl (h_lt (i := 0) hb (by decide)) (hp_at (i := 0) hh rfl rfl) (by decide) ?_
  refine x_b 1 (S2 := (5, [some (.ref b), some (.int x1), some (.int 0), some (.int (Int32.ofNat N))], [], (hput h b (Ar.cells N B)), c, n)) rfl ?_
  refine x_fg (Lq.s (Lq.s (Lq.s (Lq.s Lq.nil)))) ?_
  obtain ⟨B7, h6, hr⟩ := bd_some hr
  refine x_lw (P := P_261_5 h b c n N x1 (Int32.ofNat N)) (Q := fun x => Ex d am_M261 scr (PX_261_5 h b c n N x1 (Int32.ofNat N) x) res) (fun s o h1 ka kx => g_261_5 hd hb hh h1 ka kx) _ (0, B) _ h6 ?_
  show Ex d am_M261 scr (20, [none, none, none, none], [], (hput h b (Ar.cells N B7)), c, n) res
  cases hr
  rw [kr]
  exact x_ret rfl rfl rfl
theorem m_261 {h : AHp} {b : Nat} (hb : b + 1 ≤ am_SB) (hh : b + 1 ≤ h.length) {N : Nat} {B : Nat → Int32} {x1 : Int32} {o : Nat → Int32} (hr : F_261 N B x1 = some o) : Rn 2 261 [.ref b, .int x1] (hput h b (Ar.cells N B)) (.inl (none), hput h b (Ar.cells N o), 0, 0) :=
  x_meth (M := am_M261) rfl (show 2 ≤ 4 by decide) (f_261 (Nat.le_refl _) hb hh hr rfl)
/-- PebbleProofs$Board.begin(I)V -/
def F_1 (B : Bd) (x1 : Int32) : Option (Bd) :=
  (some (B.w_vertices x1)).bind fun B1 =>
  (some (B1.w_edges 0)).bind fun B3 =>
  (some (B3.w_moveCount 0)).bind fun B5 =>
  (some (B5.w_strategyCount 0)).bind fun B7 =>
  (F_261 6 B7.pile 0).bind fun B10 =>
  (some (B7.w_pile B10)).bind fun B11 =>
  some B11
theorem f_1 {d : Nat} (hd : 2 ≤ d) {scr : ASc} {res : ARe} {c n : Nat} {h : AHp} {b : Nat} (hb : b + 6 ≤ am_SB) (hh : b + 6 ≤ h.length) {B : Bd} {x1 : Int32} {o : Bd} (hr : F_1 B x1 = some o) (kr : res = (.inl (none), hput h b (Bd.cells b o), c, n)) : Ex d am_M1 scr (0, [some (.ref b), some (.int x1)], [], (hput h b (Bd.cells b B)), c, n) res := by
  delta F_1 at hr
  refine x_ldan rfl rfl rfl (h_lt (i := 0) hb (by decide)) ?_
  refine x_b 1 (S2 := (2, [some (.ref b), some (.int x1)], [.int x1, .ref b], (hput h b (Bd.cells b B)), c, n)) rfl ?_
  obtain ⟨B1, h2, hr⟩ := bd_some hr
  refine x_putf (H := (hput h b (Bd.cells b B1))) rfl rfl (h_lt (i := 0) hb (by decide)) (hp_at (i := 0) hh rfl rfl) ⟨(show 0 < 9 by decide), rfl, rfl, nofun⟩ (hp_set (i := 0) hh rfl (by decide) (Bd.s_vertices rfl h2)) ?_
  refine x_ldan rfl rfl rfl (h_lt (i := 0) hb (by decide)) ?_
  refine x_b 1 (S2 := (7, [some (.ref b), some (.int x1)], [.long 0, .ref b], (hput h b (Bd.cells b B1)), c, n)) rfl ?_
  obtain ⟨B3, h4, hr⟩ := bd_some hr
  refine x_putf (H := (hput h b (Bd.cells b B3))) rfl rfl (h_lt (i := 0) hb (by decide)) (hp_at (i := 0) hh rfl rfl) ⟨(show 1 < 9 by decide), rfl, rfl, nofun⟩ (hp_set (i := 0) hh rfl (by decide) (Bd.s_edges rfl h4)) ?_
  refine x_ldan rfl rfl rfl (h_lt (i := 0) hb (by decide)) ?_
  refine x_b 1 (S2 := (12, [some (.ref b), some (.int x1)], [.int 0, .ref b], (hput h b (Bd.cells b B3)), c, n)) rfl ?_
  obtain ⟨B5, h6, hr⟩ := bd_some hr
  refine x_putf (H := (hput h b (Bd.cells b B5))) rfl rfl (h_lt (i := 0) hb (by decide)) (hp_at (i := 0) hh rfl rfl) ⟨(show 2 < 9 by decide), rfl, rfl, nofun⟩ (hp_set (i := 0) hh rfl (by decide) (Bd.s_moveCount rfl h6)) ?_
  refine x_ldan rfl rfl rfl (h_lt (i := 0) hb (by decide)) ?_
  refine x_b 1 (S2 := (17, [some (.ref b), some (.int x1)], [.int 0, .ref b], (hput h b (Bd.cells b B5)), c, n)) rfl ?_
  obtain ⟨B7, h8, hr⟩ := bd_some hr
  refine x_putf (H := (hput h b (Bd.cells b B7))) rfl rfl (h_lt (i := 0) hb (by decide)) (hp_at (i := 0) hh rfl rfl) ⟨(show 3 < 9 by decide), rfl, rfl, nofun⟩ (hp_set (i := 0) hh rfl (by decide) (Bd.s_strategyCount rfl h8)) ?_
  refine x_ldan rfl rfl rfl (h_lt (i := 0) hb (by decide)) ?_
  refine x_getf rfl rfl (h_lt (i := 0) hb (by decide)) (hp_at (i := 0) hh rfl rfl) rfl ?_
  refine x_b 1 (S2 := (25, [some (.ref b), some (.int x1)], [.int 0, .ref (b + 1)], (hput h b (Bd.cells b B7)), c, n)) rfl ?_
  obtain ⟨B10, h9, hr⟩ := bd_some hr
  obtain ⟨B11, h12, hr⟩ := bd_some hr
  refine x_c0 (ar_call (H' := (hput h b (Bd.cells b B11))) (fun hb hh => m_261 hb hh h9) (h_lt (i := 1) hb (by decide)) (hp_at (i := 1) hh rfl rfl) (hp_set (i := 1) hh rfl (by decide) (Bd.s_pile h12))) rfl rfl rfl rfl rfl (by omega) ?_
  cases hr
  rw [kr]
  exact x_ret rfl rfl rfl
theorem m_1 {h : AHp} {b : Nat} (hb : b + 6 ≤ am_SB) (hh : b + 6 ≤ h.length) {B : Bd} {x1 : Int32} {o : Bd} (hr : F_1 B x1 = some o) : Rn 3 1 [.ref b, .int x1] (hput h b (Bd.cells b B)) (.inl (none), hput h b (Bd.cells b o), 0, 0) :=
  x_meth (M := am_M1) rfl (show 2 ≤ 2 by decide) (f_1 (Nat.le_refl _) hb hh hr rfl)
/-- PebbleProofs$Board.edgeBits(II)J -/
def F_3 (x0 : Int32) (x1 : Int32) : Option (Int64) :=
  some ((1 <<< (((6 * x0) + x1).toInt64 &&& 63)) ||| (1 <<< (((6 * x1) + x0).toInt64 &&& 63)))
theorem f_3 {d : Nat} (hd : 1 ≤ d) {scr : ASc} {res : ARe} {c n : Nat} {H : AHp} {x0 : Int32} {x1 : Int32} {o : Int64} (hr : F_3 x0 x1 = some o) (kr : res = (.inl (some (.long o)), H, c, n)) : Ex d am_M3 scr (0, [some (.int x0), some (.int x1)], [], H, c, n) res := by
  delta F_3 at hr
  refine x_b 15 (S2 := (17, [some (.int x0), some (.int x1)], [.long ((1 <<< (((6 * x0) + x1).toInt64 &&& 63)) ||| (1 <<< (((6 * x1) + x0).toInt64 &&& 63)))], H, c, n)) rfl ?_
  cases hr
  rw [kr]
  exact x_ret rfl rfl rfl
theorem m_3 {H : AHp} {x0 : Int32} {x1 : Int32} {o : Int64} (hr : F_3 x0 x1 = some o) : Rn 2 3 [.int x0, .int x1] H (.inl (some (.long o)), H, 0, 0) :=
  x_meth (M := am_M3) rfl (show 2 ≤ 2 by decide) (f_3 (Nat.le_refl _) hr rfl)
/-- PebbleProofs$Board.join(II)V -/
def F_4 (B : Bd) (x1 : Int32) (x2 : Int32) : Option (Bd) :=
  (F_3 x1 x2).bind fun v2 =>
  (some (B.w_edges (B.edges ||| v2))).bind fun B3 =>
  some B3
theorem f_4 {d : Nat} (hd : 2 ≤ d) {scr : ASc} {res : ARe} {c n : Nat} {h : AHp} {b : Nat} (hb : b + 6 ≤ am_SB) (hh : b + 6 ≤ h.length) {B : Bd} {x1 : Int32} {x2 : Int32} {o : Bd} (hr : F_4 B x1 x2 = some o) (kr : res = (.inl (none), hput h b (Bd.cells b o), c, n)) : Ex d am_M4 scr (0, [some (.ref b), some (.int x1), some (.int x2)], [], (hput h b (Bd.cells b B)), c, n) res := by
  delta F_4 at hr
  refine x_ldan rfl rfl rfl (h_lt (i := 0) hb (by decide)) ?_
  refine x_b 1 (S2 := (2, [some (.ref b), some (.int x1), some (.int x2)], [.ref b, .ref b], (hput h b (Bd.cells b B)), c, n)) rfl ?_
  refine x_getf rfl rfl (h_lt (i := 0) hb (by decide)) (hp_at (i := 0) hh rfl rfl) rfl ?_
  refine x_b 2 (S2 := (7, [some (.ref b), some (.int x1), some (.int x2)], [.int x2, .int x1, .long B.edges, .ref b], (hput h b (Bd.cells b B)), c, n)) rfl ?_
  obtain ⟨v2, h1, hr⟩ := bd_some hr
  refine x_c0 (m_3 h1) rfl rfl rfl rfl rfl (by omega) ?_
  refine x_b 1 (S2 := (11, [some (.ref b), some (.int x1), some (.int x2)], [.long (B.edges ||| v2), .ref b], (hput h b (Bd.cells b B)), c, n)) rfl ?_
  obtain ⟨B3, h4, hr⟩ := bd_some hr
  refine x_putf (H := (hput h b (Bd.cells b B3))) rfl rfl (h_lt (i := 0) hb (by decide)) (hp_at (i := 0) hh rfl rfl) ⟨(show 1 < 9 by decide), rfl, rfl, nofun⟩ (hp_set (i := 0) hh rfl (by decide) (Bd.s_edges rfl h4)) ?_
  cases hr
  rw [kr]
  exact x_ret rfl rfl rfl
theorem m_4 {h : AHp} {b : Nat} (hb : b + 6 ≤ am_SB) (hh : b + 6 ≤ h.length) {B : Bd} {x1 : Int32} {x2 : Int32} {o : Bd} (hr : F_4 B x1 x2 = some o) : Rn 3 4 [.ref b, .int x1, .int x2] (hput h b (Bd.cells b B)) (.inl (none), hput h b (Bd.cells b o), 0, 0) :=
  x_meth (M := am_M4) rfl (show 3 ≤ 3 by decide) (f_4 (Nat.le_refl _) hb hh hr rfl)
/-- PebbleProofs$Board.part(II)V -/
def F_5 (B : Bd) (x1 : Int32) (x2 : Int32) : Option (Bd) :=
  (F_3 x1 x2).bind fun v2 =>
  (some (B.w_edges (B.edges &&& (v2 ^^^ (18446744073709551615 : Int64))))).bind fun B3 =>
  some B3
theorem f_5 {d : Nat} (hd : 2 ≤ d) {scr : ASc} {res : ARe} {c n : Nat} {h : AHp} {b : Nat} (hb : b + 6 ≤ am_SB) (hh : b + 6 ≤ h.length) {B : Bd} {x1 : Int32} {x2 : Int32} {o : Bd} (hr : F_5 B x1 x2 = some o) (kr : res = (.inl (none), hput h b (Bd.cells b o), c, n)) : Ex d am_M5 scr (0, [some (.ref b), some (.int x1), some (.int x2)], [], (hput h b (Bd.cells b B)), c, n) res := by
  delta F_5 at hr
  refine x_ldan rfl rfl rfl (h_lt (i := 0) hb (by decide)) ?_
  refine x_b 1 (S2 := (2, [some (.ref b), some (.int x1), some (.int x2)], [.ref b, .ref b], (hput h b (Bd.cells b B)), c, n)) rfl ?_
  refine x_getf rfl rfl (h_lt (i := 0) hb (by decide)) (hp_at (i := 0) hh rfl rfl) rfl ?_
  refine x_b 2 (S2 := (7, [some (.ref b), some (.int x1), some (.int x2)], [.int x2, .int x1, .long B.edges, .ref b], (hput h b (Bd.cells b B)), c, n)) rfl ?_
  obtain ⟨v2, h1, hr⟩ := bd_some hr
  refine x_c0 (m_3 h1) rfl rfl rfl rfl rfl (by omega) ?_
  refine x_b 3 (S2 := (15, [some (.ref b), some (.int x1), some (.int x2)], [.long (B.edges &&& (v2 ^^^ (18446744073709551615 : Int64))), .ref b], (hput h b (Bd.cells b B)), c, n)) rfl ?_
  obtain ⟨B3, h4, hr⟩ := bd_some hr
  refine x_putf (H := (hput h b (Bd.cells b B3))) rfl rfl (h_lt (i := 0) hb (by decide)) (hp_at (i := 0) hh rfl rfl) ⟨(show 1 < 9 by decide), rfl, rfl, nofun⟩ (hp_set (i := 0) hh rfl (by decide) (Bd.s_edges rfl h4)) ?_
  cases hr
  rw [kr]
  exact x_ret rfl rfl rfl
theorem m_5 {h : AHp} {b : Nat} (hb : b + 6 ≤ am_SB) (hh : b + 6 ≤ h.length) {B : Bd} {x1 : Int32} {x2 : Int32} {o : Bd} (hr : F_5 B x1 x2 = some o) : Rn 3 5 [.ref b, .int x1, .int x2] (hput h b (Bd.cells b B)) (.inl (none), hput h b (Bd.cells b o), 0, 0) :=
  x_meth (M := am_M5) rfl (show 3 ≤ 3 by decide) (f_5 (Nat.le_refl _) hb hh hr rfl)
def J_6_0_j23 (B : Bd) (t0 : Int32) : Option (Int32) :=
  if t0 = 0 ∨ t0 = 1 then some t0 else none
theorem j_6_0_j23 {d : Nat} (hd : 1 ≤ d) {scr : ASc} {res : ARe} {c n : Nat} {H : AHp} {b : Nat} {B : Bd} {t0 : Int32} (hR : Rg H b (Bd.cells b B)) {o : Int32} (hr : J_6_0_j23 B t0 = some o) (kr : res = (.inl (some (.int o)), H, c, n)) : Ex d am_M6 scr (23, [none, none, none], [.int t0], H, c, n) res := by
  delta J_6_0_j23 at hr
  obtain ⟨h2, hr⟩ := itn_some hr
  cases hr
  rw [kr]
  exact x_ret rfl rfl (am_ret_z h2)
/-- PebbleProofs$Board.joins(II)Z -/
def F_6 (B : Bd) (x1 : Int32) (x2 : Int32) : Option (Int32) :=
  if (lg_cmp ((B.edges >>> (((6 * x1) + x2).toInt64 &&& 63)) &&& 1) 0) = 0 then
    J_6_0_j23 B 0
  else
    J_6_0_j23 B 1
theorem f_6 {d : Nat} (hd : 1 ≤ d) {scr : ASc} {res : ARe} {c n : Nat} {H : AHp} {b : Nat} {B : Bd} {x1 : Int32} {x2 : Int32} (hR : Rg H b (Bd.cells b B)) {o : Int32} (hr : F_6 B x1 x2 = some o) (kr : res = (.inl (some (.int o)), H, c, n)) : Ex d am_M6 scr (0, [some (.ref b), some (.int x1), some (.int x2)], [], H, c, n) res := by
  delta F_6 at hr
  refine x_ldan rfl rfl rfl (hR.lt (i := 0) (show 0 < 6 by decide)) ?_
  refine x_getf rfl rfl (hR.lt (i := 0) (show 0 < 6 by decide)) (hR.at (i := 0) rfl) rfl ?_
  refine x_b 10 (S2 := (15, [some (.ref b), some (.int x1), some (.int x2)], [.int (lg_cmp ((B.edges >>> (((6 * x1) + x2).toInt64 &&& 63)) &&& 1) 0)], H, c, n)) rfl ?_
  rcases ite_some hr with ⟨h1, hr⟩ | ⟨h1, hr⟩
  · refine x_zt rfl rfl (decide_eq_true h1) ?_
    refine x_b 1 (S2 := (23, [some (.ref b), some (.int x1), some (.int x2)], [.int 0], H, c, n)) rfl ?_
    refine x_fg (Lq.n (Lq.n (Lq.n Lq.nil))) ?_
    exact j_6_0_j23 hd hR hr kr
  · refine x_zf rfl rfl (decide_eq_false h1) ?_
    refine x_b 2 (S2 := (23, [some (.ref b), some (.int x1), some (.int x2)], [.int 1], H, c, n)) rfl ?_
    refine x_fg (Lq.n (Lq.n (Lq.n Lq.nil))) ?_
    exact j_6_0_j23 hd hR hr kr
theorem m_6 {H : AHp} {b : Nat} {B : Bd} {x1 : Int32} {x2 : Int32} (hR : Rg H b (Bd.cells b B)) {o : Int32} (hr : F_6 B x1 x2 = some o) : Rn 2 6 [.ref b, .int x1, .int x2] H (.inl (some (.int o)), H, 0, 0) :=
  x_meth (M := am_M6) rfl (show 3 ≤ 3 by decide) (f_6 (Nat.le_refl _) hR hr rfl)
/-- java/lang/Long.bitCount(J)I -/
def F_254 (x0 : Int64) : Option (Int32) :=
  some ((((((((((x0 - ((ulshr x0 1) &&& (6148914691236517205 : Int64))) &&& (3689348814741910323 : Int64)) + ((ulshr (x0 - ((ulshr x0 1) &&& (6148914691236517205 : Int64))) 2) &&& (3689348814741910323 : Int64))) + (ulshr (((x0 - ((ulshr x0 1) &&& (6148914691236517205 : Int64))) &&& (3689348814741910323 : Int64)) + ((ulshr (x0 - ((ulshr x0 1) &&& (6148914691236517205 : Int64))) 2) &&& (3689348814741910323 : Int64))) 4)) &&& (1085102592571150095 : Int64)) + (ulshr (((((x0 - ((ulshr x0 1) &&& (6148914691236517205 : Int64))) &&& (3689348814741910323 : Int64)) + ((ulshr (x0 - ((ulshr x0 1) &&& (6148914691236517205 : Int64))) 2) &&& (3689348814741910323 : Int64))) + (ulshr (((x0 - ((ulshr x0 1) &&& (6148914691236517205 : Int64))) &&& (3689348814741910323 : Int64)) + ((ulshr (x0 - ((ulshr x0 1) &&& (6148914691236517205 : Int64))) 2) &&& (3689348814741910323 : Int64))) 4)) &&& (1085102592571150095 : Int64)) 8)) + (ulshr ((((((x0 - ((ulshr x0 1) &&& (6148914691236517205 : Int64))) &&& (3689348814741910323 : Int64)) + ((ulshr (x0 - ((ulshr x0 1) &&& (6148914691236517205 : Int64))) 2) &&& (3689348814741910323 : Int64))) + (ulshr (((x0 - ((ulshr x0 1) &&& (6148914691236517205 : Int64))) &&& (3689348814741910323 : Int64)) + ((ulshr (x0 - ((ulshr x0 1) &&& (6148914691236517205 : Int64))) 2) &&& (3689348814741910323 : Int64))) 4)) &&& (1085102592571150095 : Int64)) + (ulshr (((((x0 - ((ulshr x0 1) &&& (6148914691236517205 : Int64))) &&& (3689348814741910323 : Int64)) + ((ulshr (x0 - ((ulshr x0 1) &&& (6148914691236517205 : Int64))) 2) &&& (3689348814741910323 : Int64))) + (ulshr (((x0 - ((ulshr x0 1) &&& (6148914691236517205 : Int64))) &&& (3689348814741910323 : Int64)) + ((ulshr (x0 - ((ulshr x0 1) &&& (6148914691236517205 : Int64))) 2) &&& (3689348814741910323 : Int64))) 4)) &&& (1085102592571150095 : Int64)) 8)) 16)) + (ulshr (((((((x0 - ((ulshr x0 1) &&& (6148914691236517205 : Int64))) &&& (3689348814741910323 : Int64)) + ((ulshr (x0 - ((ulshr x0 1) &&& (6148914691236517205 : Int64))) 2) &&& (3689348814741910323 : Int64))) + (ulshr (((x0 - ((ulshr x0 1) &&& (6148914691236517205 : Int64))) &&& (3689348814741910323 : Int64)) + ((ulshr (x0 - ((ulshr x0 1) &&& (6148914691236517205 : Int64))) 2) &&& (3689348814741910323 : Int64))) 4)) &&& (1085102592571150095 : Int64)) + (ulshr (((((x0 - ((ulshr x0 1) &&& (6148914691236517205 : Int64))) &&& (3689348814741910323 : Int64)) + ((ulshr (x0 - ((ulshr x0 1) &&& (6148914691236517205 : Int64))) 2) &&& (3689348814741910323 : Int64))) + (ulshr (((x0 - ((ulshr x0 1) &&& (6148914691236517205 : Int64))) &&& (3689348814741910323 : Int64)) + ((ulshr (x0 - ((ulshr x0 1) &&& (6148914691236517205 : Int64))) 2) &&& (3689348814741910323 : Int64))) 4)) &&& (1085102592571150095 : Int64)) 8)) + (ulshr ((((((x0 - ((ulshr x0 1) &&& (6148914691236517205 : Int64))) &&& (3689348814741910323 : Int64)) + ((ulshr (x0 - ((ulshr x0 1) &&& (6148914691236517205 : Int64))) 2) &&& (3689348814741910323 : Int64))) + (ulshr (((x0 - ((ulshr x0 1) &&& (6148914691236517205 : Int64))) &&& (3689348814741910323 : Int64)) + ((ulshr (x0 - ((ulshr x0 1) &&& (6148914691236517205 : Int64))) 2) &&& (3689348814741910323 : Int64))) 4)) &&& (1085102592571150095 : Int64)) + (ulshr (((((x0 - ((ulshr x0 1) &&& (6148914691236517205 : Int64))) &&& (3689348814741910323 : Int64)) + ((ulshr (x0 - ((ulshr x0 1) &&& (6148914691236517205 : Int64))) 2) &&& (3689348814741910323 : Int64))) + (ulshr (((x0 - ((ulshr x0 1) &&& (6148914691236517205 : Int64))) &&& (3689348814741910323 : Int64)) + ((ulshr (x0 - ((ulshr x0 1) &&& (6148914691236517205 : Int64))) 2) &&& (3689348814741910323 : Int64))) 4)) &&& (1085102592571150095 : Int64)) 8)) 16)) 32)).toInt32) &&& 127)
theorem f_254 {d : Nat} (hd : 1 ≤ d) {scr : ASc} {res : ARe} {c n : Nat} {H : AHp} {x0 : Int64} {o : Int32} (hr : F_254 x0 = some o) (kr : res = (.inl (some (.int o)), H, c, n)) : Ex d am_M254 scr (0, [some (.long x0), none], [], H, c, n) res := by
  delta F_254 at hr
  refine x_b 48 (S2 := (60, [some (.long ((((((((x0 - ((ulshr x0 1) &&& (6148914691236517205 : Int64))) &&& (3689348814741910323 : Int64)) + ((ulshr (x0 - ((ulshr x0 1) &&& (6148914691236517205 : Int64))) 2) &&& (3689348814741910323 : Int64))) + (ulshr (((x0 - ((ulshr x0 1) &&& (6148914691236517205 : Int64))) &&& (3689348814741910323 : Int64)) + ((ulshr (x0 - ((ulshr x0 1) &&& (6148914691236517205 : Int64))) 2) &&& (3689348814741910323 : Int64))) 4)) &&& (1085102592571150095 : Int64)) + (ulshr (((((x0 - ((ulshr x0 1) &&& (6148914691236517205 : Int64))) &&& (3689348814741910323 : Int64)) + ((ulshr (x0 - ((ulshr x0 1) &&& (6148914691236517205 : Int64))) 2) &&& (3689348814741910323 : Int64))) + (ulshr (((x0 - ((ulshr x0 1) &&& (6148914691236517205 : Int64))) &&& (3689348814741910323 : Int64)) + ((ulshr (x0 - ((ulshr x0 1) &&& (6148914691236517205 : Int64))) 2) &&& (3689348814741910323 : Int64))) 4)) &&& (1085102592571150095 : Int64)) 8)) + (ulshr ((((((x0 - ((ulshr x0 1) &&& (6148914691236517205 : Int64))) &&& (3689348814741910323 : Int64)) + ((ulshr (x0 - ((ulshr x0 1) &&& (6148914691236517205 : Int64))) 2) &&& (3689348814741910323 : Int64))) + (ulshr (((x0 - ((ulshr x0 1) &&& (6148914691236517205 : Int64))) &&& (3689348814741910323 : Int64)) + ((ulshr (x0 - ((ulshr x0 1) &&& (6148914691236517205 : Int64))) 2) &&& (3689348814741910323 : Int64))) 4)) &&& (1085102592571150095 : Int64)) + (ulshr (((((x0 - ((ulshr x0 1) &&& (6148914691236517205 : Int64))) &&& (3689348814741910323 : Int64)) + ((ulshr (x0 - ((ulshr x0 1) &&& (6148914691236517205 : Int64))) 2) &&& (3689348814741910323 : Int64))) + (ulshr (((x0 - ((ulshr x0 1) &&& (6148914691236517205 : Int64))) &&& (3689348814741910323 : Int64)) + ((ulshr (x0 - ((ulshr x0 1) &&& (6148914691236517205 : Int64))) 2) &&& (3689348814741910323 : Int64))) 4)) &&& (1085102592571150095 : Int64)) 8)) 16)) + (ulshr (((((((x0 - ((ulshr x0 1) &&& (6148914691236517205 : Int64))) &&& (3689348814741910323 : Int64)) + ((ulshr (x0 - ((ulshr x0 1) &&& (6148914691236517205 : Int64))) 2) &&& (3689348814741910323 : Int64))) + (ulshr (((x0 - ((ulshr x0 1) &&& (6148914691236517205 : Int64))) &&& (3689348814741910323 : Int64)) + ((ulshr (x0 - ((ulshr x0 1) &&& (6148914691236517205 : Int64))) 2) &&& (3689348814741910323 : Int64))) 4)) &&& (1085102592571150095 : Int64)) + (ulshr (((((x0 - ((ulshr x0 1) &&& (6148914691236517205 : Int64))) &&& (3689348814741910323 : Int64)) + ((ulshr (x0 - ((ulshr x0 1) &&& (6148914691236517205 : Int64))) 2) &&& (3689348814741910323 : Int64))) + (ulshr (((x0 - ((ulshr x0 1) &&& (6148914691236517205 : Int64))) &&& (3689348814741910323 : Int64)) + ((ulshr (x0 - ((ulshr x0 1) &&& (6148914691236517205 : Int64))) 2) &&& (3689348814741910323 : Int64))) 4)) &&& (1085102592571150095 : Int64)) 8)) + (ulshr ((((((x0 - ((ulshr x0 1) &&& (6148914691236517205 : Int64))) &&& (3689348814741910323 : Int64)) + ((ulshr (x0 - ((ulshr x0 1) &&& (6148914691236517205 : Int64))) 2) &&& (3689348814741910323 : Int64))) + (ulshr (((x0 - ((ulshr x0 1) &&& (6148914691236517205 : Int64))) &&& (3689348814741910323 : Int64)) + ((ulshr (x0 - ((ulshr x0 1) &&& (6148914691236517205 : Int64))) 2) &&& (3689348814741910323 : Int64))) 4)) &&& (1085102592571150095 : Int64)) + (ulshr (((((x0 - ((ulshr x0 1) &&& (6148914691236517205 : Int64))) &&& (3689348814741910323 : Int64)) + ((ulshr (x0 - ((ulshr x0 1) &&& (6148914691236517205 : Int64))) 2) &&& (3689348814741910323 : Int64))) + (ulshr (((x0 - ((ulshr x0 1) &&& (6148914691236517205 : Int64))) &&& (3689348814741910323 : Int64)) + ((ulshr (x0 - ((ulshr x0 1) &&& (6148914691236517205 : Int64))) 2) &&& (3689348814741910323 : Int64))) 4)) &&& (1085102592571150095 : Int64)) 8)) 16)) 32))), none], [.int ((((((((((x0 - ((ulshr x0 1) &&& (6148914691236517205 : Int64))) &&& (3689348814741910323 : Int64)) + ((ulshr (x0 - ((ulshr x0 1) &&& (6148914691236517205 : Int64))) 2) &&& (3689348814741910323 : Int64))) + (ulshr (((x0 - ((ulshr x0 1) &&& (6148914691236517205 : Int64))) &&& (3689348814741910323 : Int64)) + ((ulshr (x0 - ((ulshr x0 1) &&& (6148914691236517205 : Int64))) 2) &&& (3689348814741910323 : Int64))) 4)) &&& (1085102592571150095 : Int64)) + (ulshr (((((x0 - ((ulshr x0 1) &&& (6148914691236517205 : Int64))) &&& (3689348814741910323 : Int64)) + ((ulshr (x0 - ((ulshr x0 1) &&& (6148914691236517205 : Int64))) 2) &&& (3689348814741910323 : Int64))) + (ulshr (((x0 - ((ulshr x0 1) &&& (6148914691236517205 : Int64))) &&& (3689348814741910323 : Int64)) + ((ulshr (x0 - ((ulshr x0 1) &&& (6148914691236517205 : Int64))) 2) &&& (3689348814741910323 : Int64))) 4)) &&& (1085102592571150095 : Int64)) 8)) + (ulshr ((((((x0 - ((ulshr x0 1) &&& (6148914691236517205 : Int64))) &&& (3689348814741910323 : Int64)) + ((ulshr (x0 - ((ulshr x0 1) &&& (6148914691236517205 : Int64))) 2) &&& (3689348814741910323 : Int64))) + (ulshr (((x0 - ((ulshr x0 1) &&& (6148914691236517205 : Int64))) &&& (3689348814741910323 : Int64)) + ((ulshr (x0 - ((ulshr x0 1) &&& (6148914691236517205 : Int64))) 2) &&& (3689348814741910323 : Int64))) 4)) &&& (1085102592571150095 : Int64)) + (ulshr (((((x0 - ((ulshr x0 1) &&& (6148914691236517205 : Int64))) &&& (3689348814741910323 : Int64)) + ((ulshr (x0 - ((ulshr x0 1) &&& (6148914691236517205 : Int64))) 2) &&& (3689348814741910323 : Int64))) + (ulshr (((x0 - ((ulshr x0 1) &&& (6148914691236517205 : Int64))) &&& (3689348814741910323 : Int64)) + ((ulshr (x0 - ((ulshr x0 1) &&& (6148914691236517205 : Int64))) 2) &&& (3689348814741910323 : Int64))) 4)) &&& (1085102592571150095 : Int64)) 8)) 16)) + (ulshr (((((((x0 - ((ulshr x0 1) &&& (6148914691236517205 : Int64))) &&& (3689348814741910323 : Int64)) + ((ulshr (x0 - ((ulshr x0 1) &&& (6148914691236517205 : Int64))) 2) &&& (3689348814741910323 : Int64))) + (ulshr (((x0 - ((ulshr x0 1) &&& (6148914691236517205 : Int64))) &&& (3689348814741910323 : Int64)) + ((ulshr (x0 - ((ulshr x0 1) &&& (6148914691236517205 : Int64))) 2) &&& (3689348814741910323 : Int64))) 4)) &&& (1085102592571150095 : Int64)) + (ulshr (((((x0 - ((ulshr x0 1) &&& (6148914691236517205 : Int64))) &&& (3689348814741910323 : Int64)) + ((ulshr (x0 - ((ulshr x0 1) &&& (6148914691236517205 : Int64))) 2) &&& (3689348814741910323 : Int64))) + (ulshr (((x0 - ((ulshr x0 1) &&& (6148914691236517205 : Int64))) &&& (3689348814741910323 : Int64)) + ((ulshr (x0 - ((ulshr x0 1) &&& (6148914691236517205 : Int64))) 2) &&& (3689348814741910323 : Int64))) 4)) &&& (1085102592571150095 : Int64)) 8)) + (ulshr ((((((x0 - ((ulshr x0 1) &&& (6148914691236517205 : Int64))) &&& (3689348814741910323 : Int64)) + ((ulshr (x0 - ((ulshr x0 1) &&& (6148914691236517205 : Int64))) 2) &&& (3689348814741910323 : Int64))) + (ulshr (((x0 - ((ulshr x0 1) &&& (6148914691236517205 : Int64))) &&& (3689348814741910323 : Int64)) + ((ulshr (x0 - ((ulshr x0 1) &&& (6148914691236517205 : Int64))) 2) &&& (3689348814741910323 : Int64))) 4)) &&& (1085102592571150095 : Int64)) + (ulshr (((((x0 - ((ulshr x0 1) &&& (6148914691236517205 : Int64))) &&& (3689348814741910323 : Int64)) + ((ulshr (x0 - ((ulshr x0 1) &&& (6148914691236517205 : Int64))) 2) &&& (3689348814741910323 : Int64))) + (ulshr (((x0 - ((ulshr x0 1) &&& (6148914691236517205 : Int64))) &&& (3689348814741910323 : Int64)) + ((ulshr (x0 - ((ulshr x0 1) &&& (6148914691236517205 : Int64))) 2) &&& (3689348814741910323 : Int64))) 4)) &&& (1085102592571150095 : Int64)) 8)) 16)) 32)).toInt32) &&& 127)], H, c, n)) rfl ?_
  cases hr
  rw [kr]
  exact x_ret rfl rfl am_ret_i
theorem m_254 {H : AHp} {x0 : Int64} {o : Int32} (hr : F_254 x0 = some o) : Rn 2 254 [.long x0] H (.inl (some (.int o)), H, 0, 0) :=
  x_meth (M := am_M254) rfl (show 2 ≤ 2 by decide) (f_254 (Nat.le_refl _) hr rfl)
/-- PebbleProofs$Board.edgeCount()I -/
def F_7 (B : Bd) : Option (Int32) :=
  (F_254 B.edges).bind fun v2 =>
  some (v2 / 2)
theorem f_7 {d : Nat} (hd : 2 ≤ d) {scr : ASc} {res : ARe} {c n : Nat} {H : AHp} {b : Nat} {B : Bd} (hR : Rg H b (Bd.cells b B)) {o : Int32} (hr : F_7 B = some o) (kr : res = (.inl (some (.int o)), H, c, n)) : Ex d am_M7 scr (0, [some (.ref b)], [], H, c, n) res := by
  delta F_7 at hr
  refine x_ldan rfl rfl rfl (hR.lt (i := 0) (show 0 < 6 by decide)) ?_
  refine x_getf rfl rfl (hR.lt (i := 0) (show 0 < 6 by decide)) (hR.at (i := 0) rfl) rfl ?_
  obtain ⟨v2, h1, hr⟩ := bd_some hr
  refine x_c0 (m_254 h1) rfl rfl rfl rfl rfl (by omega) ?_
  refine x_b 1 (S2 := (8, [some (.ref b)], [.int 2, .int v2], H, c, n)) rfl ?_
  refine x_div rfl rfl (by decide) ?_
  cases hr
  rw [kr]
  exact x_ret rfl rfl am_ret_i
theorem m_7 {H : AHp} {b : Nat} {B : Bd} (hR : Rg H b (Bd.cells b B)) {o : Int32} (hr : F_7 B = some o) : Rn 3 7 [.ref b] H (.inl (some (.int o)), H, 0, 0) :=
  x_meth (M := am_M7) rfl (show 1 ≤ 1 by decide) (f_7 (Nat.le_refl _) hR hr rfl)
/-- PebbleProofs$Board.neighboursIn(JI)I -/
def F_8 (x0 : Int64) (x2 : Int32) : Option (Int32) :=
  some (((x0 >>> ((6 * x2).toInt64 &&& 63)).toInt32) &&& 63)
theorem f_8 {d : Nat} (hd : 1 ≤ d) {scr : ASc} {res : ARe} {c n : Nat} {H : AHp} {x0 : Int64} {x2 : Int32} {o : Int32} (hr : F_8 x0 x2 = some o) (kr : res = (.inl (some (.int o)), H, c, n)) : Ex d am_M8 scr (0, [some (.long x0), none, some (.int x2)], [], H, c, n) res := by
  delta F_8 at hr
  refine x_b 8 (S2 := (10, [some (.long x0), none, some (.int x2)], [.int (((x0 >>> ((6 * x2).toInt64 &&& 63)).toInt32) &&& 63)], H, c, n)) rfl ?_
  cases hr
  rw [kr]
  exact x_ret rfl rfl am_ret_i
theorem m_8 {H : AHp} {x0 : Int64} {x2 : Int32} {o : Int32} (hr : F_8 x0 x2 = some o) : Rn 2 8 [.long x0, .int x2] H (.inl (some (.int o)), H, 0, 0) :=
  x_meth (M := am_M8) rfl (show 3 ≤ 3 by decide) (f_8 (Nat.le_refl _) hr rfl)
/-- PebbleProofs$Board.neighbours(I)I -/
def F_9 (B : Bd) (x1 : Int32) : Option (Int32) :=
  (F_8 B.edges x1).bind fun v2 =>
  some v2
theorem f_9 {d : Nat} (hd : 2 ≤ d) {scr : ASc} {res : ARe} {c n : Nat} {H : AHp} {b : Nat} {B : Bd} {x1 : Int32} (hR : Rg H b (Bd.cells b B)) {o : Int32} (hr : F_9 B x1 = some o) (kr : res = (.inl (some (.int o)), H, c, n)) : Ex d am_M9 scr (0, [some (.ref b), some (.int x1)], [], H, c, n) res := by
  delta F_9 at hr
  refine x_ldan rfl rfl rfl (hR.lt (i := 0) (show 0 < 6 by decide)) ?_
  refine x_getf rfl rfl (hR.lt (i := 0) (show 0 < 6 by decide)) (hR.at (i := 0) rfl) rfl ?_
  refine x_b 1 (S2 := (5, [some (.ref b), some (.int x1)], [.int x1, .long B.edges], H, c, n)) rfl ?_
  obtain ⟨v2, h1, hr⟩ := bd_some hr
  refine x_c0 (m_8 h1) rfl rfl rfl rfl rfl (by omega) ?_
  cases hr
  rw [kr]
  exact x_ret rfl rfl am_ret_i
theorem m_9 {H : AHp} {b : Nat} {B : Bd} {x1 : Int32} (hR : Rg H b (Bd.cells b B)) {o : Int32} (hr : F_9 B x1 = some o) : Rn 3 9 [.ref b, .int x1] H (.inl (some (.int o)), H, 0, 0) :=
  x_meth (M := am_M9) rfl (show 2 ≤ 2 by decide) (f_9 (Nat.le_refl _) hR hr rfl)
/-- java/lang/Integer.bitCount(I)I -/
def F_253 (x0 : Int32) : Option (Int32) :=
  some ((((((((x0 - ((ushr x0 1) &&& (1431655765 : Int32))) &&& (858993459 : Int32)) + ((ushr (x0 - ((ushr x0 1) &&& (1431655765 : Int32))) 2) &&& (858993459 : Int32))) + (ushr (((x0 - ((ushr x0 1) &&& (1431655765 : Int32))) &&& (858993459 : Int32)) + ((ushr (x0 - ((ushr x0 1) &&& (1431655765 : Int32))) 2) &&& (858993459 : Int32))) 4)) &&& (252645135 : Int32)) + (ushr (((((x0 - ((ushr x0 1) &&& (1431655765 : Int32))) &&& (858993459 : Int32)) + ((ushr (x0 - ((ushr x0 1) &&& (1431655765 : Int32))) 2) &&& (858993459 : Int32))) + (ushr (((x0 - ((ushr x0 1) &&& (1431655765 : Int32))) &&& (858993459 : Int32)) + ((ushr (x0 - ((ushr x0 1) &&& (1431655765 : Int32))) 2) &&& (858993459 : Int32))) 4)) &&& (252645135 : Int32)) 8)) + (ushr ((((((x0 - ((ushr x0 1) &&& (1431655765 : Int32))) &&& (858993459 : Int32)) + ((ushr (x0 - ((ushr x0 1) &&& (1431655765 : Int32))) 2) &&& (858993459 : Int32))) + (ushr (((x0 - ((ushr x0 1) &&& (1431655765 : Int32))) &&& (858993459 : Int32)) + ((ushr (x0 - ((ushr x0 1) &&& (1431655765 : Int32))) 2) &&& (858993459 : Int32))) 4)) &&& (252645135 : Int32)) + (ushr (((((x0 - ((ushr x0 1) &&& (1431655765 : Int32))) &&& (858993459 : Int32)) + ((ushr (x0 - ((ushr x0 1) &&& (1431655765 : Int32))) 2) &&& (858993459 : Int32))) + (ushr (((x0 - ((ushr x0 1) &&& (1431655765 : Int32))) &&& (858993459 : Int32)) + ((ushr (x0 - ((ushr x0 1) &&& (1431655765 : Int32))) 2) &&& (858993459 : Int32))) 4)) &&& (252645135 : Int32)) 8)) 16)) &&& 63)
theorem f_253 {d : Nat} (hd : 1 ≤ d) {scr : ASc} {res : ARe} {c n : Nat} {H : AHp} {x0 : Int32} {o : Int32} (hr : F_253 x0 = some o) (kr : res = (.inl (some (.int o)), H, c, n)) : Ex d am_M253 scr (0, [some (.int x0)], [], H, c, n) res := by
  delta F_253 at hr
  refine x_b 41 (S2 := (52, [some (.int (((((((x0 - ((ushr x0 1) &&& (1431655765 : Int32))) &&& (858993459 : Int32)) + ((ushr (x0 - ((ushr x0 1) &&& (1431655765 : Int32))) 2) &&& (858993459 : Int32))) + (ushr (((x0 - ((ushr x0 1) &&& (1431655765 : Int32))) &&& (858993459 : Int32)) + ((ushr (x0 - ((ushr x0 1) &&& (1431655765 : Int32))) 2) &&& (858993459 : Int32))) 4)) &&& (252645135 : Int32)) + (ushr (((((x0 - ((ushr x0 1) &&& (1431655765 : Int32))) &&& (858993459 : Int32)) + ((ushr (x0 - ((ushr x0 1) &&& (1431655765 : Int32))) 2) &&& (858993459 : Int32))) + (ushr (((x0 - ((ushr x0 1) &&& (1431655765 : Int32))) &&& (858993459 : Int32)) + ((ushr (x0 - ((ushr x0 1) &&& (1431655765 : Int32))) 2) &&& (858993459 : Int32))) 4)) &&& (252645135 : Int32)) 8)) + (ushr ((((((x0 - ((ushr x0 1) &&& (1431655765 : Int32))) &&& (858993459 : Int32)) + ((ushr (x0 - ((ushr x0 1) &&& (1431655765 : Int32))) 2) &&& (858993459 : Int32))) + (ushr (((x0 - ((ushr x0 1) &&& (1431655765 : Int32))) &&& (858993459 : Int32)) + ((ushr (x0 - ((ushr x0 1) &&& (1431655765 : Int32))) 2) &&& (858993459 : Int32))) 4)) &&& (252645135 : Int32)) + (ushr (((((x0 - ((ushr x0 1) &&& (1431655765 : Int32))) &&& (858993459 : Int32)) + ((ushr (x0 - ((ushr x0 1) &&& (1431655765 : Int32))) 2) &&& (858993459 : Int32))) + (ushr (((x0 - ((ushr x0 1) &&& (1431655765 : Int32))) &&& (858993459 : Int32)) + ((ushr (x0 - ((ushr x0 1) &&& (1431655765 : Int32))) 2) &&& (858993459 : Int32))) 4)) &&& (252645135 : Int32)) 8)) 16)))], [.int ((((((((x0 - ((ushr x0 1) &&& (1431655765 : Int32))) &&& (858993459 : Int32)) + ((ushr (x0 - ((ushr x0 1) &&& (1431655765 : Int32))) 2) &&& (858993459 : Int32))) + (ushr (((x0 - ((ushr x0 1) &&& (1431655765 : Int32))) &&& (858993459 : Int32)) + ((ushr (x0 - ((ushr x0 1) &&& (1431655765 : Int32))) 2) &&& (858993459 : Int32))) 4)) &&& (252645135 : Int32)) + (ushr (((((x0 - ((ushr x0 1) &&& (1431655765 : Int32))) &&& (858993459 : Int32)) + ((ushr (x0 - ((ushr x0 1) &&& (1431655765 : Int32))) 2) &&& (858993459 : Int32))) + (ushr (((x0 - ((ushr x0 1) &&& (1431655765 : Int32))) &&& (858993459 : Int32)) + ((ushr (x0 - ((ushr x0 1) &&& (1431655765 : Int32))) 2) &&& (858993459 : Int32))) 4)) &&& (252645135 : Int32)) 8)) + (ushr ((((((x0 - ((ushr x0 1) &&& (1431655765 : Int32))) &&& (858993459 : Int32)) + ((ushr (x0 - ((ushr x0 1) &&& (1431655765 : Int32))) 2) &&& (858993459 : Int32))) + (ushr (((x0 - ((ushr x0 1) &&& (1431655765 : Int32))) &&& (858993459 : Int32)) + ((ushr (x0 - ((ushr x0 1) &&& (1431655765 : Int32))) 2) &&& (858993459 : Int32))) 4)) &&& (252645135 : Int32)) + (ushr (((((x0 - ((ushr x0 1) &&& (1431655765 : Int32))) &&& (858993459 : Int32)) + ((ushr (x0 - ((ushr x0 1) &&& (1431655765 : Int32))) 2) &&& (858993459 : Int32))) + (ushr (((x0 - ((ushr x0 1) &&& (1431655765 : Int32))) &&& (858993459 : Int32)) + ((ushr (x0 - ((ushr x0 1) &&& (1431655765 : Int32))) 2) &&& (858993459 : Int32))) 4)) &&& (252645135 : Int32)) 8)) 16)) &&& 63)], H, c, n)) rfl ?_
  cases hr
  rw [kr]
  exact x_ret rfl rfl am_ret_i
theorem m_253 {H : AHp} {x0 : Int32} {o : Int32} (hr : F_253 x0 = some o) : Rn 2 253 [.int x0] H (.inl (some (.int o)), H, 0, 0) :=
  x_meth (M := am_M253) rfl (show 1 ≤ 1 by decide) (f_253 (Nat.le_refl _) hr rfl)
abbrev P_10_5 (H : AHp) (b : Nat) (c n : Nat) (B : Bd) (x1 : Int64) (s : Int32 × Int32) : ASt := (5, [some (.ref b), some (.long x1), none, some (.int s.1), some (.int s.2), none], [], H, c, n)
abbrev PX_10_5 (H : AHp) (b : Nat) (c n : Nat) (B : Bd) (x1 : Int64) (s : Int32) : ASt := (56, [some (.ref b), none, none, some (.int s), none, none], [], H, c, n)
abbrev P_10_17 (H : AHp) (b : Nat) (c n : Nat) (B : Bd) (x1 : Int64) (x4 : Int32) (s : Int32 × Int32) : ASt := (17, [some (.ref b), some (.long x1), none, some (.int s.1), some (.int x4), some (.int s.2)], [], H, c, n)
abbrev PX_10_17 (H : AHp) (b : Nat) (c n : Nat) (B : Bd) (x1 : Int64) (x4 : Int32) (s : Int32) : ASt := (50, [some (.ref b), some (.long x1), none, some (.int s), some (.int x4), none], [], H, c, n)
def J_10_17_j44 (B : Bd) (x1 : Int64) (x3 : Int32) (x4 : Int32) (x5 : Int32) : Option ((Int32 × Int32) ⊕ (Int32)) :=
  some (.inl (x3, (x5 + 1)))
theorem j_10_17_j44 {d : Nat} (hd : 2 ≤ d) {scr : ASc} {res : ARe} {c n : Nat} {H : AHp} {b : Nat} {B : Bd} {x1 : Int64} {x3 : Int32} {x4 : Int32} {x5 : Int32} (hR : Rg H b (Bd.cells b B)) {o : (Int32 × Int32) ⊕ (Int32)} (hr : J_10_17_j44 B x1 x3 x4 x5 = some o) (ka : ∀ s, o = .inl s → Ex d am_M10 scr (P_10_17 H b c n B x1 x4 s) res) (kx : ∀ s, o = .inr s → Ex d am_M10 scr (PX_10_17 H b c n B x1 x4 s) res) : Ex d am_M10 scr (44, [some (.ref b), some (.long x1), none, some (.int x3), some (.int x4), some (.int x5)], [], H, c, n) res := by
  delta J_10_17_j44 at hr
  refine x_b 2 (S2 := (17, [some (.ref b), some (.long x1), none, some (.int x3), some (.int x4), some (.int (x5 + 1))], [], H, c, n)) rfl ?_
  refine x_fg (Lq.s (Lq.s (Lq.s (Lq.s (Lq.s (Lq.s Lq.nil)))))) ?_
  exact ka (x3, (x5 + 1)) (Option.some.inj hr).symm
def G_10_17 (B : Bd) (x1 : Int64) (x4 : Int32) (s : Int32 × Int32) : Option ((Int32 × Int32) ⊕ (Int32)) := 
  match s with
  | (x3, x5) =>
    if B.vertices ≤ x5 then
      some (.inr x3)
    else
      if ((x3 >>> (x5 &&& 31)) &&& 1) = 0 then
        J_10_17_j44 B x1 x3 x4 x5
      else
        (F_8 x1 x5).bind fun v5 =>
        J_10_17_j44 B x1 (x3 ||| v5) x4 x5
theorem g_10_17 {d : Nat} (hd : 2 ≤ d) {scr : ASc} {res : ARe} {c n : Nat} {H : AHp} {b : Nat} {B : Bd} {x1 : Int64} {x4 : Int32} (hR : Rg H b (Bd.cells b B)) {s : Int32 × Int32} {o : (Int32 × Int32) ⊕ (Int32)} (hr : G_10_17 B x1 x4 s = some o) (ka : ∀ s, o = .inl s → Ex d am_M10 scr (P_10_17 H b c n B x1 x4 s) res) (kx : ∀ s, o = .inr s → Ex d am_M10 scr (PX_10_17 H b c n B x1 x4 s) res) : Ex d am_M10 scr (P_10_17 H b c n B x1 x4 s) res := by
  obtain ⟨x3, x5⟩ := s
  delta G_10_17 at hr
  show Ex d am_M10 scr (17, [some (.ref b), some (.long x1), none, some (.int x3), some (.int x4), some (.int x5)], [], H, c, n) res
  refine x_b 1 (S2 := (19, [some (.ref b), some (.long x1), none, some (.int x3), some (.int x4), some (.int x5)], [.int x5], H, c, n)) rfl ?_
  refine x_ldan rfl rfl rfl (hR.lt (i := 0) (show 0 < 6 by decide)) ?_
  refine x_getf rfl rfl (hR.lt (i := 0) (show 0 < 6 by decide)) (hR.at (i := 0) rfl) rfl ?_
  rcases ite_some hr with ⟨h2, hr⟩ | ⟨h2, hr⟩
  · refine x_ct rfl rfl (decide_eq_true h2) ?_
    refine x_fg (Lq.s (Lq.s (Lq.s (Lq.s (Lq.s (Lq.n Lq.nil)))))) ?_
    exact kx x3 (Option.some.inj hr).symm
  · refine x_cf rfl rfl (decide_eq_false h2) ?_
    refine x_b 5 (S2 := (32, [some (.ref b), some (.long x1), none, some (.int x3), some (.int x4), some (.int x5)], [.int ((x3 >>> (x5 &&& 31)) &&& 1)], H, c, n)) rfl ?_
    rcases ite_some hr with ⟨h3, hr⟩ | ⟨h3, hr⟩
    · refine x_zt rfl rfl (decide_eq_true h3) ?_
      refine x_fg (Lq.s (Lq.s (Lq.s (Lq.s (Lq.s (Lq.s Lq.nil)))))) ?_
      exact j_10_17_j44 hd hR hr ka kx
    · refine x_zf rfl rfl (decide_eq_false h3) ?_
      refine x_b 3 (S2 := (39, [some (.ref b), some (.long x1), none, some (.int x3), some (.int x4), some (.int x5)], [.int x5, .long x1, .int x3], H, c, n)) rfl ?_
      obtain ⟨v5, h4, hr⟩ := bd_some hr
      refine x_c0 (m_8 h4) rfl rfl rfl rfl rfl (by omega) ?_
      refine x_b 2 (S2 := (44, [some (.ref b), some (.long x1), none, some (.int (x3 ||| v5)), some (.int x4), some (.int x5)], [], H, c, n)) rfl ?_
      refine x_fg (Lq.s (Lq.s (Lq.s (Lq.s (Lq.s (Lq.s Lq.nil)))))) ?_
      exact j_10_17_j44 hd hR hr ka kx
def G_10_5 (B : Bd) (x1 : Int64) (s : Int32 × Int32) : Option ((Int32 × Int32) ⊕ (Int32)) := 
  match s with
  | (x3, x4) =>
    if B.vertices ≤ x4 then
      some (.inr x3)
    else
      (lw (G_10_17 B x1 x4) 200000 (x3, 0)).bind fun v7 =>
      some (.inl (v7, (x4 + 1)))
theorem g_10_5 {d : Nat} (hd : 2 ≤ d) {scr : ASc} {res : ARe} {c n : Nat} {H : AHp} {b : Nat} {B : Bd} {x1 : Int64} (hR : Rg H b (Bd.cells b B)) {s : Int32 × Int32} {o : (Int32 × Int32) ⊕ (Int32)} (hr : G_10_5 B x1 s = some o) (ka : ∀ s, o = .inl s → Ex d am_M10 scr (P_10_5 H b c n B x1 s) res) (kx : ∀ s, o = .inr s → Ex d am_M10 scr (PX_10_5 H b c n B x1 s) res) : Ex d am_M10 scr (P_10_5 H b c n B x1 s) res := by
  obtain ⟨x3, x4⟩ := s
  delta G_10_5 at hr
  show Ex d am_M10 scr (5, [some (.ref b), some (.long x1), none, some (.int x3), some (.int x4), none], [], H, c, n) res
  refine x_b 1 (S2 := (7, [some (.ref b), some (.long x1), none, some (.int x3), some (.int x4), none], [.int x4], H, c, n)) rfl ?_
  refine x_ldan rfl rfl rfl (hR.lt (i := 0) (show 0 < 6 by decide)) ?_
  refine x_getf rfl rfl (hR.lt (i := 0) (show 0 < 6 by decide)) (hR.at (i := 0) rfl) rfl ?_
  rcases ite_some hr with ⟨h1, hr⟩ | ⟨h1, hr⟩
  · refine x_ct rfl rfl (decide_eq_true h1) ?_
    refine x_fg (Lq.s (Lq.n (Lq.s (Lq.s (Lq.n (Lq.s Lq.nil)))))) ?_
    exact kx x3 (Option.some.inj hr).symm
  · refine x_cf rfl rfl (decide_eq_false h1) ?_
    refine x_b 2 (S2 := (17, [some (.ref b), some (.long x1), none, some (.int x3), some (.int x4), some (.int 0)], [], H, c, n)) rfl ?_
    refine x_fg (Lq.s (Lq.s (Lq.s (Lq.s (Lq.s (Lq.s Lq.nil)))))) ?_
    obtain ⟨v7, h6, hr⟩ := bd_some hr
    refine x_lw (P := P_10_17 H b c n B x1 x4) (Q := fun x => Ex d am_M10 scr (PX_10_17 H b c n B x1 x4 x) res) (fun s o h1 ka kx => g_10_17 hd hR h1 ka kx) _ (x3, 0) _ h6 ?_
    show Ex d am_M10 scr (50, [some (.ref b), some (.long x1), none, some (.int v7), some (.int x4), none], [], H, c, n) res
    refine x_b 2 (S2 := (5, [some (.ref b), some (.long x1), none, some (.int v7), some (.int (x4 + 1)), none], [], H, c, n)) rfl ?_
    refine x_fg (Lq.s (Lq.s (Lq.s (Lq.s (Lq.s (Lq.s Lq.nil)))))) ?_
    exact ka (v7, (x4 + 1)) (Option.some.inj hr).symm
def J_10_0_j72 (B : Bd) (t0 : Int32) : Option (Int32) :=
  if t0 = 0 ∨ t0 = 1 then some t0 else none
theorem j_10_0_j72 {d : Nat} (hd : 2 ≤ d) {scr : ASc} {res : ARe} {c n : Nat} {H : AHp} {b : Nat} {B : Bd} {t0 : Int32} (hR : Rg H b (Bd.cells b B)) {o : Int32} (hr : J_10_0_j72 B t0 = some o) (kr : res = (.inl (some (.int o)), H, c, n)) : Ex d am_M10 scr (72, [none, none, none, none, none, none], [.int t0], H, c, n) res := by
  delta J_10_0_j72 at hr
  obtain ⟨h15, hr⟩ := itn_some hr
  cases hr
  rw [kr]
  exact x_ret rfl rfl (am_ret_z h15)
/-- PebbleProofs$Board.isConnectedBy(J)Z -/
def F_10 (B : Bd) (x1 : Int64) : Option (Int32) :=
  (lw (G_10_5 B x1) 200000 (1, 1)).bind fun v10 =>
  (F_253 v10).bind fun v13 =>
  if ¬ v13 = B.vertices then
    J_10_0_j72 B 0
  else
    J_10_0_j72 B 1
theorem f_10 {d : Nat} (hd : 2 ≤ d) {scr : ASc} {res : ARe} {c n : Nat} {H : AHp} {b : Nat} {B : Bd} {x1 : Int64} (hR : Rg H b (Bd.cells b B)) {o : Int32} (hr : F_10 B x1 = some o) (kr : res = (.inl (some (.int o)), H, c, n)) : Ex d am_M10 scr (0, [some (.ref b), some (.long x1), none, none, none, none], [], H, c, n) res := by
  delta F_10 at hr
  refine x_b 4 (S2 := (5, [some (.ref b), some (.long x1), none, some (.int 1), some (.int 1), none], [], H, c, n)) rfl ?_
  refine x_fg (Lq.s (Lq.s (Lq.s (Lq.s (Lq.s (Lq.s Lq.nil)))))) ?_
  obtain ⟨v10, h9, hr⟩ := bd_some hr
  refine x_lw (P := P_10_5 H b c n B x1) (Q := fun x => Ex d am_M10 scr (PX_10_5 H b c n B x1 x) res) (fun s o h1 ka kx => g_10_5 hd hR h1 ka kx) _ (1, 1) _ h9 ?_
  show Ex d am_M10 scr (56, [some (.ref b), none, none, some (.int v10), none, none], [], H, c, n) res
  refine x_b 1 (S2 := (57, [some (.ref b), none, none, some (.int v10), none, none], [.int v10], H, c, n)) rfl ?_
  obtain ⟨v13, h12, hr⟩ := bd_some hr
  refine x_c0 (m_253 h12) rfl rfl rfl rfl rfl (by omega) ?_
  refine x_ldan rfl rfl rfl (hR.lt (i := 0) (show 0 < 6 by decide)) ?_
  refine x_getf rfl rfl (hR.lt (i := 0) (show 0 < 6 by decide)) (hR.at (i := 0) rfl) rfl ?_
  rcases ite_some hr with ⟨h14, hr⟩ | ⟨h14, hr⟩
  · refine x_ct rfl rfl (decide_eq_true h14) ?_
    refine x_b 1 (S2 := (72, [some (.ref b), none, none, some (.int v10), none, none], [.int 0], H, c, n)) rfl ?_
    refine x_fg (Lq.n (Lq.s (Lq.s (Lq.n (Lq.s (Lq.s Lq.nil)))))) ?_
    exact j_10_0_j72 hd hR hr kr
  · refine x_cf rfl rfl (decide_eq_false h14) ?_
    refine x_b 2 (S2 := (72, [some (.ref b), none, none, some (.int v10), none, none], [.int 1], H, c, n)) rfl ?_
    refine x_fg (Lq.n (Lq.s (Lq.s (Lq.n (Lq.s (Lq.s Lq.nil)))))) ?_
    exact j_10_0_j72 hd hR hr kr
theorem m_10 {H : AHp} {b : Nat} {B : Bd} {x1 : Int64} (hR : Rg H b (Bd.cells b B)) {o : Int32} (hr : F_10 B x1 = some o) : Rn 3 10 [.ref b, .long x1] H (.inl (some (.int o)), H, 0, 0) :=
  x_meth (M := am_M10) rfl (show 3 ≤ 6 by decide) (f_10 (Nat.le_refl _) hR hr rfl)
/-- PebbleProofs$Board.isConnected()Z -/
def F_11 (B : Bd) : Option (Int32) :=
  (F_10 B B.edges).bind fun v2 =>
  if v2 = 0 ∨ v2 = 1 then some v2 else none
theorem f_11 {d : Nat} (hd : 3 ≤ d) {scr : ASc} {res : ARe} {c n : Nat} {H : AHp} {b : Nat} {B : Bd} (hR : Rg H b (Bd.cells b B)) {o : Int32} (hr : F_11 B = some o) (kr : res = (.inl (some (.int o)), H, c, n)) : Ex d am_M11 scr (0, [some (.ref b)], [], H, c, n) res := by
  delta F_11 at hr
  refine x_ldan rfl rfl rfl (hR.lt (i := 0) (show 0 < 6 by decide)) ?_
  refine x_ldan rfl rfl rfl (hR.lt (i := 0) (show 0 < 6 by decide)) ?_
  refine x_getf rfl rfl (hR.lt (i := 0) (show 0 < 6 by decide)) (hR.at (i := 0) rfl) rfl ?_
  obtain ⟨v2, h1, hr⟩ := bd_some hr
  refine x_c0 (m_10 hR h1) rfl rfl rfl rfl (am_recv_v (hR.lt (i := 0) (show 0 < 6 by decide)) (hR.at (i := 0) rfl) rfl) (by omega) ?_
  obtain ⟨h3, hr⟩ := itn_some hr
  cases hr
  rw [kr]
  exact x_ret rfl rfl (am_ret_z h3)
theorem m_11 {H : AHp} {b : Nat} {B : Bd} (hR : Rg H b (Bd.cells b B)) {o : Int32} (hr : F_11 B = some o) : Rn 4 11 [.ref b] H (.inl (some (.int o)), H, 0, 0) :=
  x_meth (M := am_M11) rfl (show 1 ≤ 1 by decide) (f_11 (Nat.le_refl _) hR hr rfl)
/-- PebbleProofs$Board.isConnectedWithout(II)Z -/
def F_12 (B : Bd) (x1 : Int32) (x2 : Int32) : Option (Int32) :=
  (F_3 x1 x2).bind fun v2 =>
  (F_10 B (B.edges &&& (v2 ^^^ (18446744073709551615 : Int64)))).bind fun v4 =>
  if v4 = 0 ∨ v4 = 1 then some v4 else none
theorem f_12 {d : Nat} (hd : 3 ≤ d) {scr : ASc} {res : ARe} {c n : Nat} {H : AHp} {b : Nat} {B : Bd} {x1 : Int32} {x2 : Int32} (hR : Rg H b (Bd.cells b B)) {o : Int32} (hr : F_12 B x1 x2 = some o) (kr : res = (.inl (some (.int o)), H, c, n)) : Ex d am_M12 scr (0, [some (.ref b), some (.int x1), some (.int x2)], [], H, c, n) res := by
  delta F_12 at hr
  refine x_ldan rfl rfl rfl (hR.lt (i := 0) (show 0 < 6 by decide)) ?_
  refine x_ldan rfl rfl rfl (hR.lt (i := 0) (show 0 < 6 by decide)) ?_
  refine x_getf rfl rfl (hR.lt (i := 0) (show 0 < 6 by decide)) (hR.at (i := 0) rfl) rfl ?_
  refine x_b 2 (S2 := (7, [some (.ref b), some (.int x1), some (.int x2)], [.int x2, .int x1, .long B.edges, .ref b], H, c, n)) rfl ?_
  obtain ⟨v2, h1, hr⟩ := bd_some hr
  refine x_c0 (m_3 h1) rfl rfl rfl rfl rfl (by omega) ?_
  refine x_b 3 (S2 := (15, [some (.ref b), some (.int x1), some (.int x2)], [.long (B.edges &&& (v2 ^^^ (18446744073709551615 : Int64))), .ref b], H, c, n)) rfl ?_
  obtain ⟨v4, h3, hr⟩ := bd_some hr
  refine x_c0 (m_10 hR h3) rfl rfl rfl rfl (am_recv_v (hR.lt (i := 0) (show 0 < 6 by decide)) (hR.at (i := 0) rfl) rfl) (by omega) ?_
  obtain ⟨h5, hr⟩ := itn_some hr
  cases hr
  rw [kr]
  exact x_ret rfl rfl (am_ret_z h5)
theorem m_12 {H : AHp} {b : Nat} {B : Bd} {x1 : Int32} {x2 : Int32} (hR : Rg H b (Bd.cells b B)) {o : Int32} (hr : F_12 B x1 x2 = some o) : Rn 4 12 [.ref b, .int x1, .int x2] H (.inl (some (.int o)), H, 0, 0) :=
  x_meth (M := am_M12) rfl (show 3 ≤ 3 by decide) (f_12 (Nat.le_refl _) hR hr rfl)
abbrev P_14_9 (h : AHp) (b : Nat) (c n : Nat) (x1 : Int32) (s : Int32 × Int32 × Int32 × (Bd)) : ASt := (9, [some (.ref b), some (.int x1), some (.int s.1), some (.int s.2.1), some (.int s.2.2.1), none, none], [], (hput h b (Bd.cells b s.2.2.2)), c, n)
abbrev PX_14_9 (h : AHp) (b : Nat) (c n : Nat) (x1 : Int32) (s : (Bd)) : ASt := (90, [none, none, none, none, none, none, none], [], (hput h b (Bd.cells b s)), c, n)
abbrev P_14_28 (h : AHp) (b : Nat) (c n : Nat) (x1 : Int32) (x2 : Int32) (x3 : Int32) (x4 : Int32) (s : Int32 × Int32 × (Bd)) : ASt := (28, [some (.ref b), some (.int x1), some (.int x2), some (.int x3), some (.int x4), some (.int s.1), some (.int s.2.1)], [], (hput h b (Bd.cells b s.2.2)), c, n)
abbrev PX_14_28 (h : AHp) (b : Nat) (c n : Nat) (x1 : Int32) (x2 : Int32) (x3 : Int32) (x4 : Int32) (s : Int32 × (Bd)) : ASt := (77, [some (.ref b), some (.int x1), some (.int x2), none, some (.int x4), some (.int s.1), none], [], (hput h b (Bd.cells b s.2)), c, n)
def J_14_28_j71 (B : Bd) (x1 : Int32) (x2 : Int32) (x3 : Int32) (x4 : Int32) (x5 : Int32) (x6 : Int32) : Option ((Int32 × Int32 × (Bd)) ⊕ (Int32 × (Bd))) :=
  some (.inl (x5, (x6 + 1), B))
theorem j_14_28_j71 {d : Nat} (hd : 3 ≤ d) {scr : ASc} {res : ARe} {c n : Nat} {h : AHp} {b : Nat} (hb : b + 6 ≤ am_SB) (hh : b + 6 ≤ h.length) {B : Bd} {x1 : Int32} {x2 : Int32} {x3 : Int32} {x4 : Int32} {x5 : Int32} {x6 : Int32} {o : (Int32 × Int32 × (Bd)) ⊕ (Int32 × (Bd))} (hr : J_14_28_j71 B x1 x2 x3 x4 x5 x6 = some o) (ka : ∀ s, o = .inl s → Ex d am_M14 scr (P_14_28 h b c n x1 x2 x3 x4 s) res) (kx : ∀ s, o = .inr s → Ex d am_M14 scr (PX_14_28 h b c n x1 x2 x3 x4 s) res) : Ex d am_M14 scr (71, [some (.ref b), some (.int x1), some (.int x2), some (.int x3), some (.int x4), some (.int x5), some (.int x6)], [], (hput h b (Bd.cells b B)), c, n) res := by
  delta J_14_28_j71 at hr
  refine x_b 2 (S2 := (28, [some (.ref b), some (.int x1), some (.int x2), some (.int x3), some (.int x4), some (.int x5), some (.int (x6 + 1))], [], (hput h b (Bd.cells b B)), c, n)) rfl ?_
  refine x_fg (Lq.s (Lq.s (Lq.s (Lq.s (Lq.s (Lq.s (Lq.s Lq.nil))))))) ?_
  exact ka (x5, (x6 + 1), B) (Option.some.inj hr).symm
def G_14_28 (x1 : Int32) (x2 : Int32) (x3 : Int32) (x4 : Int32) (s : Int32 × Int32 × (Bd)) : Option ((Int32 × Int32 × (Bd)) ⊕ (Int32 × (Bd))) := 
  match s with
  | (x5, x6, B) =>
    if B.vertices ≤ x6 then
      some (.inr (x5, B))
    else
      if ((x3 >>> (x6 &&& 31)) &&& 1) = 0 then
        J_14_28_j71 B x1 x2 x3 x4 x5 x6
      else
        (ix ((6 * x1) + x6) 36).bind fun i4 =>
        (some (B.w_distances (upd B.distances i4 x4))).bind fun B6 =>
        (F_9 B6 x6).bind fun v9 =>
        J_14_28_j71 B6 x1 x2 x3 x4 (x5 ||| v9) x6
theorem g_14_28 {d : Nat} (hd : 3 ≤ d) {scr : ASc} {res : ARe} {c n : Nat} {h : AHp} {b : Nat} (hb : b + 6 ≤ am_SB) (hh : b + 6 ≤ h.length) {x1 : Int32} {x2 : Int32} {x3 : Int32} {x4 : Int32} {s : Int32 × Int32 × (Bd)} {o : (Int32 × Int32 × (Bd)) ⊕ (Int32 × (Bd))} (hr : G_14_28 x1 x2 x3 x4 s = some o) (ka : ∀ s, o = .inl s → Ex d am_M14 scr (P_14_28 h b c n x1 x2 x3 x4 s) res) (kx : ∀ s, o = .inr s → Ex d am_M14 scr (PX_14_28 h b c n x1 x2 x3 x4 s) res) : Ex d am_M14 scr (P_14_28 h b c n x1 x2 x3 x4 s) res := by
  obtain ⟨x5, x6, B⟩ := s
  delta G_14_28 at hr
  show Ex d am_M14 scr (28, [some (.ref b), some (.int x1), some (.int x2), some (.int x3), some (.int x4), some (.int x5), some (.int x6)], [], (hput h b (Bd.cells b B)), c, n) res
  refine x_b 1 (S2 := (30, [some (.ref b), some (.int x1), some (.int x2), some (.int x3), some (.int x4), some (.int x5), some (.int x6)], [.int x6], (hput h b (Bd.cells b B)), c, n)) rfl ?_
  refine x_ldan rfl rfl rfl (h_lt (i := 0) hb (by decide)) ?_
  refine x_getf rfl rfl (h_lt (i := 0) hb (by decide)) (hp_at (i := 0) hh rfl rfl) rfl ?_
  rcases ite_some hr with ⟨h2, hr⟩ | ⟨h2, hr⟩
  · refine x_ct rfl rfl (decide_eq_true h2) ?_
    refine x_fg (Lq.s (Lq.s (Lq.s (Lq.n (Lq.s (Lq.s (Lq.n Lq.nil))))))) ?_
    exact kx (x5, B) (Option.some.inj hr).symm
  · refine x_cf rfl rfl (decide_eq_false h2) ?_
    refine x_b 5 (S2 := (43, [some (.ref b), some (.int x1), some (.int x2), some (.int x3), some (.int x4), some (.int x5), some (.int x6)], [.int ((x3 >>> (x6 &&& 31)) &&& 1)], (hput h b (Bd.cells b B)), c, n)) rfl ?_
    rcases ite_some hr with ⟨h3, hr⟩ | ⟨h3, hr⟩
    · refine x_zt rfl rfl (decide_eq_true h3) ?_
      refine x_fg (Lq.s (Lq.s (Lq.s (Lq.s (Lq.s (Lq.s (Lq.s Lq.nil))))))) ?_
      exact j_14_28_j71 hd hb hh hr ka kx
    · refine x_zf rfl rfl (decide_eq_false h3) ?_
      refine x_ldan rfl rfl rfl (h_lt (i := 0) hb (by decide)) ?_
      refine x_getf rfl rfl (h_lt (i := 0) hb (by decide)) (hp_at (i := 0) hh rfl rfl) rfl ?_
      refine x_b 6 (S2 := (59, [some (.ref b), some (.int x1), some (.int x2), some (.int x3), some (.int x4), some (.int x5), some (.int x6)], [.int x4, .int ((6 * x1) + x6), .ref (b + 2)], (hput h b (Bd.cells b B)), c, n)) rfl ?_
      obtain ⟨i4, h5, hr⟩ := bd_some hr
      obtain ⟨B6, h7, hr⟩ := bd_some hr
      refine x_iast (H := (hput h b (Bd.cells b B6))) rfl rfl (h_lt (i := 2) hb (by decide)) (hp_at (i := 2) hh rfl rfl) h5 (hp_set (i := 2) hh rfl (by decide) (Bd.s_distances h7)) ?_
      refine x_b 1 (S2 := (62, [some (.ref b), some (.int x1), some (.int x2), some (.int x3), some (.int x4), some (.int x5), some (.int x6)], [.int x5], (hput h b (Bd.cells b B6)), c, n)) rfl ?_
      refine x_ldan rfl rfl rfl (h_lt (i := 0) hb (by decide)) ?_
      refine x_b 1 (S2 := (65, [some (.ref b), some (.int x1), some (.int x2), some (.int x3), some (.int x4), some (.int x5), some (.int x6)], [.int x6, .ref b, .int x5], (hput h b (Bd.cells b B6)), c, n)) rfl ?_
      obtain ⟨v9, h8, hr⟩ := bd_some hr
      refine x_c0 (m_9 (hp_rg hb hh rfl) h8) rfl rfl rfl rfl (am_recv_v (h_lt (i := 0) hb (by decide)) (hp_at (i := 0) hh rfl rfl) rfl) (by omega) ?_
      refine x_b 2 (S2 := (71, [some (.ref b), some (.int x1), some (.int x2), some (.int x3), some (.int x4), some (.int (x5 ||| v9)), some (.int x6)], [], (hput h b (Bd.cells b B6)), c, n)) rfl ?_
      refine x_fg (Lq.s (Lq.s (Lq.s (Lq.s (Lq.s (Lq.s (Lq.s Lq.nil))))))) ?_
      exact j_14_28_j71 hd hb hh hr ka kx
def G_14_9 (x1 : Int32) (s : Int32 × Int32 × Int32 × (Bd)) : Option ((Int32 × Int32 × Int32 × (Bd)) ⊕ ((Bd))) := 
  match s with
  | (x2, x3, x4, B) =>
    if B.vertices ≤ x4 then
      some (.inr B)
    else
      (lw (G_14_28 x1 (x2 ||| x3) x3 x4) 200000 (0, 0, B)).bind fun (v11, B12) =>
      some (.inl ((x2 ||| x3), (v11 &&& ((x2 ||| x3) ^^^ (-1))), (x4 + 1), B12))
theorem g_14_9 {d : Nat} (hd : 3 ≤ d) {scr : ASc} {res : ARe} {c n : Nat} {h : AHp} {b : Nat} (hb : b + 6 ≤ am_SB) (hh : b + 6 ≤ h.length) {x1 : Int32} {s : Int32 × Int32 × Int32 × (Bd)} {o : (Int32 × Int32 × Int32 × (Bd)) ⊕ ((Bd))} (hr : G_14_9 x1 s = some o) (ka : ∀ s, o = .inl s → Ex d am_M14 scr (P_14_9 h b c n x1 s) res) (kx : ∀ s, o = .inr s → Ex d am_M14 scr (PX_14_9 h b c n x1 s) res) : Ex d am_M14 scr (P_14_9 h b c n x1 s) res := by
  obtain ⟨x2, x3, x4, B⟩ := s
  delta G_14_9 at hr
  show Ex d am_M14 scr (9, [some (.ref b), some (.int x1), some (.int x2), some (.int x3), some (.int x4), none, none], [], (hput h b (Bd.cells b B)), c, n) res
  refine x_b 1 (S2 := (11, [some (.ref b), some (.int x1), some (.int x2), some (.int x3), some (.int x4), none, none], [.int x4], (hput h b (Bd.cells b B)), c, n)) rfl ?_
  refine x_ldan rfl rfl rfl (h_lt (i := 0) hb (by decide)) ?_
  refine x_getf rfl rfl (h_lt (i := 0) hb (by decide)) (hp_at (i := 0) hh rfl rfl) rfl ?_
  rcases ite_some hr with ⟨h1, hr⟩ | ⟨h1, hr⟩
  · refine x_ct rfl rfl (decide_eq_true h1) ?_
    refine x_fg (Lq.n (Lq.n (Lq.n (Lq.n (Lq.n (Lq.s (Lq.s Lq.nil))))))) ?_
    exact kx B (Option.some.inj hr).symm
  · refine x_cf rfl rfl (decide_eq_false h1) ?_
    refine x_b 8 (S2 := (28, [some (.ref b), some (.int x1), some (.int (x2 ||| x3)), some (.int x3), some (.int x4), some (.int 0), some (.int 0)], [], (hput h b (Bd.cells b B)), c, n)) rfl ?_
    refine x_fg (Lq.s (Lq.s (Lq.s (Lq.s (Lq.s (Lq.s (Lq.s Lq.nil))))))) ?_
    obtain ⟨o13, h10, hr⟩ := bd_some hr
    refine x_lw (P := P_14_28 h b c n x1 (x2 ||| x3) x3 x4) (Q := fun x => Ex d am_M14 scr (PX_14_28 h b c n x1 (x2 ||| x3) x3 x4 x) res) (fun s o h1 ka kx => g_14_28 hd hb hh h1 ka kx) _ (0, 0, B) _ h10 ?_
    obtain ⟨v11, B12⟩ := o13
    show Ex d am_M14 scr (77, [some (.ref b), some (.int x1), some (.int (x2 ||| x3)), none, some (.int x4), some (.int v11), none], [], (hput h b (Bd.cells b B12)), c, n) res
    refine x_b 8 (S2 := (9, [some (.ref b), some (.int x1), some (.int (x2 ||| x3)), some (.int (v11 &&& ((x2 ||| x3) ^^^ (-1)))), some (.int (x4 + 1)), some (.int v11), none], [], (hput h b (Bd.cells b B12)), c, n)) rfl ?_
    refine x_fg (Lq.s (Lq.s (Lq.s (Lq.s (Lq.s (Lq.n (Lq.s Lq.nil))))))) ?_
    exact ka ((x2 ||| x3), (v11 &&& ((x2 ||| x3) ^^^ (-1))), (x4 + 1), B12) (Option.some.inj hr).symm
/-- PebbleProofs$Board.measureFrom(I)V -/
def F_14 (B : Bd) (x1 : Int32) : Option (Bd) :=
  (lw (G_14_9 x1) 200000 (0, (1 <<< (x1 &&& 31)), 0, B)).bind fun B15 =>
  some B15
theorem f_14 {d : Nat} (hd : 3 ≤ d) {scr : ASc} {res : ARe} {c n : Nat} {h : AHp} {b : Nat} (hb : b + 6 ≤ am_SB) (hh : b + 6 ≤ h.length) {B : Bd} {x1 : Int32} {o : Bd} (hr : F_14 B x1 = some o) (kr : res = (.inl (none), hput h b (Bd.cells b o), c, n)) : Ex d am_M14 scr (0, [some (.ref b), some (.int x1), none, none, none, none, none], [], (hput h b (Bd.cells b B)), c, n) res := by
  delta F_14 at hr
  refine x_b 8 (S2 := (9, [some (.ref b), some (.int x1), some (.int 0), some (.int (1 <<< (x1 &&& 31))), some (.int 0), none, none], [], (hput h b (Bd.cells b B)), c, n)) rfl ?_
  refine x_fg (Lq.s (Lq.s (Lq.s (Lq.s (Lq.s (Lq.s (Lq.s Lq.nil))))))) ?_
  obtain ⟨B15, h14, hr⟩ := bd_some hr
  refine x_lw (P := P_14_9 h b c n x1) (Q := fun x => Ex d am_M14 scr (PX_14_9 h b c n x1 x) res) (fun s o h1 ka kx => g_14_9 hd hb hh h1 ka kx) _ (0, (1 <<< (x1 &&& 31)), 0, B) _ h14 ?_
  show Ex d am_M14 scr (90, [none, none, none, none, none, none, none], [], (hput h b (Bd.cells b B15)), c, n) res
  cases hr
  rw [kr]
  exact x_ret rfl rfl rfl
theorem m_14 {h : AHp} {b : Nat} (hb : b + 6 ≤ am_SB) (hh : b + 6 ≤ h.length) {B : Bd} {x1 : Int32} {o : Bd} (hr : F_14 B x1 = some o) : Rn 4 14 [.ref b, .int x1] (hput h b (Bd.cells b B)) (.inl (none), hput h b (Bd.cells b o), 0, 0) :=
  x_meth (M := am_M14) rfl (show 2 ≤ 7 by decide) (f_14 (Nat.le_refl _) hb hh hr rfl)
abbrev P_13_2 (h : AHp) (b : Nat) (c n : Nat)  (s : Int32 × (Bd)) : ASt := (2, [some (.ref b), some (.int s.1)], [], (hput h b (Bd.cells b s.2)), c, n)
abbrev PX_13_2 (h : AHp) (b : Nat) (c n : Nat)  (s : (Bd)) : ASt := (21, [none, none], [], (hput h b (Bd.cells b s)), c, n)
def G_13_2  (s : Int32 × (Bd)) : Option ((Int32 × (Bd)) ⊕ ((Bd))) := 
  match s with
  | (x1, B) =>
    if B.vertices ≤ x1 then
      some (.inr B)
    else
      (F_14 B x1).bind fun B3 =>
      some (.inl ((x1 + 1), B3))
theorem g_13_2 {d : Nat} (hd : 4 ≤ d) {scr : ASc} {res : ARe} {c n : Nat} {h : AHp} {b : Nat} (hb : b + 6 ≤ am_SB) (hh : b + 6 ≤ h.length)  {s : Int32 × (Bd)} {o : (Int32 × (Bd)) ⊕ ((Bd))} (hr : G_13_2  s = some o) (ka : ∀ s, o = .inl s → Ex d am_M13 scr (P_13_2 h b c n  s) res) (kx : ∀ s, o = .inr s → Ex d am_M13 scr (PX_13_2 h b c n  s) res) : Ex d am_M13 scr (P_13_2 h b c n  s) res := by
  obtain ⟨x1, B⟩ := s
  delta G_13_2 at hr
  show Ex d am_M13 scr (2, [some (.ref b), some (.int x1)], [], (hput h b (Bd.cells b B)), c, n) res
  refine x_b 1 (S2 := (3, [some (.ref b), some (.int x1)], [.int x1], (hput h b (Bd.cells b B)), c, n)) rfl ?_
  refine x_ldan rfl rfl rfl (h_lt (i := 0) hb (by decide)) ?_
  refine x_getf rfl rfl (h_lt (i := 0) hb (by decide)) (hp_at (i := 0) hh rfl rfl) rfl ?_
  rcases ite_some hr with ⟨h1, hr⟩ | ⟨h1, hr⟩
  · refine x_ct rfl rfl (decide_eq_true h1) ?_
    refine x_fg (Lq.n (Lq.n Lq.nil)) ?_
    exact kx B (Option.some.inj hr).symm
  · refine x_cf rfl rfl (decide_eq_false h1) ?_
    refine x_ldan rfl rfl rfl (h_lt (i := 0) hb (by decide)) ?_
    refine x_b 1 (S2 := (12, [some (.ref b), some (.int x1)], [.int x1, .ref b], (hput h b (Bd.cells b B)), c, n)) rfl ?_
    obtain ⟨B3, h2, hr⟩ := bd_some hr
    refine x_c0 (m_14 hb hh h2) rfl rfl rfl rfl (am_recv_v (h_lt (i := 0) hb (by decide)) (hp_at (i := 0) hh rfl rfl) rfl) (by omega) ?_
    refine x_b 2 (S2 := (2, [some (.ref b), some (.int (x1 + 1))], [], (hput h b (Bd.cells b B3)), c, n)) rfl ?_
    refine x_fg (Lq.s (Lq.s Lq.nil)) ?_
    exact ka ((x1 + 1), B3) (Option.some.inj hr).symm
/-- PebbleProofs$Board.measure()V -/
def F_13 (B : Bd) : Option (Bd) :=
  (lw (G_13_2 ) 200000 (0, B)).bind fun B5 =>
  some B5
theorem f_13 {d : Nat} (hd : 4 ≤ d) {scr : ASc} {res : ARe} {c n : Nat} {h : AHp} {b : Nat} (hb : b + 6 ≤ am_SB) (hh : b + 6 ≤ h.length) {B : Bd} {o : Bd} (hr : F_13 B = some o) (kr : res = (.inl (none), hput h b (Bd.cells b o), c, n)) : Ex d am_M13 scr (0, [some (.ref b), none], [], (hput h b (Bd.cells b B)), c, n) res := by
  delta F_13 at hr
  refine x_b 2 (S2 := (2, [some (.ref b), some (.int 0)], [], (hput h b (Bd.cells b B)), c, n)) rfl ?_
  refine x_fg (Lq.s (Lq.s Lq.nil)) ?_
  obtain ⟨B5, h4, hr⟩ := bd_some hr
  refine x_lw (P := P_13_2 h b c n ) (Q := fun x => Ex d am_M13 scr (PX_13_2 h b c n  x) res) (fun s o h1 ka kx => g_13_2 hd hb hh h1 ka kx) _ (0, B) _ h4 ?_
  show Ex d am_M13 scr (21, [none, none], [], (hput h b (Bd.cells b B5)), c, n) res
  cases hr
  rw [kr]
  exact x_ret rfl rfl rfl
theorem m_13 {h : AHp} {b : Nat} (hb : b + 6 ≤ am_SB) (hh : b + 6 ≤ h.length) {B : Bd} {o : Bd} (hr : F_13 B = some o) : Rn 5 13 [.ref b] (hput h b (Bd.cells b B)) (.inl (none), hput h b (Bd.cells b o), 0, 0) :=
  x_meth (M := am_M13) rfl (show 1 ≤ 2 by decide) (f_13 (Nat.le_refl _) hb hh hr rfl)
/-- PebbleProofs$Board.apart(II)I -/
def F_15 (B : Bd) (x1 : Int32) (x2 : Int32) : Option (Int32) :=
  (ix ((6 * x1) + x2) 36).bind fun i1 =>
  some (B.distances i1)
theorem f_15 {d : Nat} (hd : 1 ≤ d) {scr : ASc} {res : ARe} {c n : Nat} {H : AHp} {b : Nat} {B : Bd} {x1 : Int32} {x2 : Int32} (hR : Rg H b (Bd.cells b B)) {o : Int32} (hr : F_15 B x1 x2 = some o) (kr : res = (.inl (some (.int o)), H, c, n)) : Ex d am_M15 scr (0, [some (.ref b), some (.int x1), some (.int x2)], [], H, c, n) res := by
  delta F_15 at hr
  refine x_ldan rfl rfl rfl (hR.lt (i := 0) (show 0 < 6 by decide)) ?_
  refine x_getf rfl rfl (hR.lt (i := 0) (show 0 < 6 by decide)) (hR.at (i := 0) rfl) rfl ?_
  refine x_b 5 (S2 := (10, [some (.ref b), some (.int x1), some (.int x2)], [.int ((6 * x1) + x2), .ref (b + 2)], H, c, n)) rfl ?_
  obtain ⟨i1, h2, hr⟩ := bd_some hr
  refine x_iald rfl rfl (hR.lt (i := 2) (show 2 < 6 by decide)) (hR.at (i := 2) rfl) h2 ?_
  cases hr
  rw [kr]
  exact x_ret rfl rfl am_ret_i
theorem m_15 {H : AHp} {b : Nat} {B : Bd} {x1 : Int32} {x2 : Int32} (hR : Rg H b (Bd.cells b B)) {o : Int32} (hr : F_15 B x1 x2 = some o) : Rn 2 15 [.ref b, .int x1, .int x2] H (.inl (some (.int o)), H, 0, 0) :=
  x_meth (M := am_M15) rfl (show 3 ≤ 3 by decide) (f_15 (Nat.le_refl _) hR hr rfl)
abbrev P_16_8 (H : AHp) (b : Nat) (c n : Nat) (B : Bd) (x1 : Int32) (x2 : Int32) (s : Int32 × Int32) : ASt := (8, [some (.ref b), some (.int x1), some (.int x2), some (.int s.1), some (.int s.2)], [], H, c, n)
abbrev PX_16_8 (H : AHp) (b : Nat) (c n : Nat) (B : Bd) (x1 : Int32) (x2 : Int32) (s : Int32) : ASt := (44, [none, none, none, some (.int s), none], [], H, c, n)
def J_16_8_j38 (B : Bd) (x1 : Int32) (x2 : Int32) (x3 : Int32) (x4 : Int32) : Option ((Int32 × Int32) ⊕ (Int32)) :=
  some (.inl (x3, (x4 + 1)))
theorem j_16_8_j38 {d : Nat} (hd : 2 ≤ d) {scr : ASc} {res : ARe} {c n : Nat} {H : AHp} {b : Nat} {B : Bd} {x1 : Int32} {x2 : Int32} {x3 : Int32} {x4 : Int32} (hR : Rg H b (Bd.cells b B)) {o : (Int32 × Int32) ⊕ (Int32)} (hr : J_16_8_j38 B x1 x2 x3 x4 = some o) (ka : ∀ s, o = .inl s → Ex d am_M16 scr (P_16_8 H b c n B x1 x2 s) res) (kx : ∀ s, o = .inr s → Ex d am_M16 scr (PX_16_8 H b c n B x1 x2 s) res) : Ex d am_M16 scr (38, [some (.ref b), some (.int x1), some (.int x2), some (.int x3), some (.int x4)], [], H, c, n) res := by
  delta J_16_8_j38 at hr
  refine x_b 2 (S2 := (8, [some (.ref b), some (.int x1), some (.int x2), some (.int x3), some (.int (x4 + 1))], [], H, c, n)) rfl ?_
  refine x_fg (Lq.s (Lq.s (Lq.s (Lq.s (Lq.s Lq.nil))))) ?_
  exact ka (x3, (x4 + 1)) (Option.some.inj hr).symm
def G_16_8 (B : Bd) (x1 : Int32) (x2 : Int32) (s : Int32 × Int32) : Option ((Int32 × Int32) ⊕ (Int32)) := 
  match s with
  | (x3, x4) =>
    if B.vertices ≤ x4 then
      some (.inr x3)
    else
      if ((x2 >>> (x4 &&& 31)) &&& 1) = 0 then
        J_16_8_j38 B x1 x2 x3 x4
      else
        (F_15 B x1 x4).bind fun v4 =>
        J_16_8_j38 B x1 x2 (imn x3 v4) x4
theorem g_16_8 {d : Nat} (hd : 2 ≤ d) {scr : ASc} {res : ARe} {c n : Nat} {H : AHp} {b : Nat} {B : Bd} {x1 : Int32} {x2 : Int32} (hR : Rg H b (Bd.cells b B)) {s : Int32 × Int32} {o : (Int32 × Int32) ⊕ (Int32)} (hr : G_16_8 B x1 x2 s = some o) (ka : ∀ s, o = .inl s → Ex d am_M16 scr (P_16_8 H b c n B x1 x2 s) res) (kx : ∀ s, o = .inr s → Ex d am_M16 scr (PX_16_8 H b c n B x1 x2 s) res) : Ex d am_M16 scr (P_16_8 H b c n B x1 x2 s) res := by
  obtain ⟨x3, x4⟩ := s
  delta G_16_8 at hr
  show Ex d am_M16 scr (8, [some (.ref b), some (.int x1), some (.int x2), some (.int x3), some (.int x4)], [], H, c, n) res
  refine x_b 1 (S2 := (10, [some (.ref b), some (.int x1), some (.int x2), some (.int x3), some (.int x4)], [.int x4], H, c, n)) rfl ?_
  refine x_ldan rfl rfl rfl (hR.lt (i := 0) (show 0 < 6 by decide)) ?_
  refine x_getf rfl rfl (hR.lt (i := 0) (show 0 < 6 by decide)) (hR.at (i := 0) rfl) rfl ?_
  rcases ite_some hr with ⟨h1, hr⟩ | ⟨h1, hr⟩
  · refine x_ct rfl rfl (decide_eq_true h1) ?_
    refine x_fg (Lq.n (Lq.n (Lq.n (Lq.s (Lq.n Lq.nil))))) ?_
    exact kx x3 (Option.some.inj hr).symm
  · refine x_cf rfl rfl (decide_eq_false h1) ?_
    refine x_b 5 (S2 := (23, [some (.ref b), some (.int x1), some (.int x2), some (.int x3), some (.int x4)], [.int ((x2 >>> (x4 &&& 31)) &&& 1)], H, c, n)) rfl ?_
    rcases ite_some hr with ⟨h2, hr⟩ | ⟨h2, hr⟩
    · refine x_zt rfl rfl (decide_eq_true h2) ?_
      refine x_fg (Lq.s (Lq.s (Lq.s (Lq.s (Lq.s Lq.nil))))) ?_
      exact j_16_8_j38 hd hR hr ka kx
    · refine x_zf rfl rfl (decide_eq_false h2) ?_
      refine x_b 1 (S2 := (27, [some (.ref b), some (.int x1), some (.int x2), some (.int x3), some (.int x4)], [.int x3], H, c, n)) rfl ?_
      refine x_ldan rfl rfl rfl (hR.lt (i := 0) (show 0 < 6 by decide)) ?_
      refine x_b 2 (S2 := (31, [some (.ref b), some (.int x1), some (.int x2), some (.int x3), some (.int x4)], [.int x4, .int x1, .ref b, .int x3], H, c, n)) rfl ?_
      obtain ⟨v4, h3, hr⟩ := bd_some hr
      refine x_c0 (m_15 hR h3) rfl rfl rfl rfl (am_recv_v (hR.lt (i := 0) (show 0 < 6 by decide)) (hR.at (i := 0) rfl) rfl) (by omega) ?_
      refine x_b 2 (S2 := (38, [some (.ref b), some (.int x1), some (.int x2), some (.int (imn x3 v4)), some (.int x4)], [], H, c, n)) rfl ?_
      refine x_fg (Lq.s (Lq.s (Lq.s (Lq.s (Lq.s Lq.nil))))) ?_
      exact j_16_8_j38 hd hR hr ka kx
/-- PebbleProofs$Board.apartFromSet(II)I -/
def F_16 (B : Bd) (x1 : Int32) (x2 : Int32) : Option (Int32) :=
  (lw (G_16_8 B x1 x2) 200000 (B.vertices, 0)).bind fun v6 =>
  some v6
theorem f_16 {d : Nat} (hd : 2 ≤ d) {scr : ASc} {res : ARe} {c n : Nat} {H : AHp} {b : Nat} {B : Bd} {x1 : Int32} {x2 : Int32} (hR : Rg H b (Bd.cells b B)) {o : Int32} (hr : F_16 B x1 x2 = some o) (kr : res = (.inl (some (.int o)), H, c, n)) : Ex d am_M16 scr (0, [some (.ref b), some (.int x1), some (.int x2), none, none], [], H, c, n) res := by
  delta F_16 at hr
  refine x_ldan rfl rfl rfl (hR.lt (i := 0) (show 0 < 6 by decide)) ?_
  refine x_getf rfl rfl (hR.lt (i := 0) (show 0 < 6 by decide)) (hR.at (i := 0) rfl) rfl ?_
  refine x_b 3 (S2 := (8, [some (.ref b), some (.int x1), some (.int x2), some (.int B.vertices), some (.int 0)], [], H, c, n)) rfl ?_
  refine x_fg (Lq.s (Lq.s (Lq.s (Lq.s (Lq.s Lq.nil))))) ?_
  obtain ⟨v6, h5, hr⟩ := bd_some hr
  refine x_lw (P := P_16_8 H b c n B x1 x2) (Q := fun x => Ex d am_M16 scr (PX_16_8 H b c n B x1 x2 x) res) (fun s o h1 ka kx => g_16_8 hd hR h1 ka kx) _ (B.vertices, 0) _ h5 ?_
  show Ex d am_M16 scr (44, [none, none, none, some (.int v6), none], [], H, c, n) res
  refine x_b 1 (S2 := (45, [none, none, none, some (.int v6), none], [.int v6], H, c, n)) rfl ?_
  cases hr
  rw [kr]
  exact x_ret rfl rfl am_ret_i
theorem m_16 {H : AHp} {b : Nat} {B : Bd} {x1 : Int32} {x2 : Int32} (hR : Rg H b (Bd.cells b B)) {o : Int32} (hr : F_16 B x1 x2 = some o) : Rn 3 16 [.ref b, .int x1, .int x2] H (.inl (some (.int o)), H, 0, 0) :=
  x_meth (M := am_M16) rfl (show 3 ≤ 5 by decide) (f_16 (Nat.le_refl _) hR hr rfl)
abbrev P_17_4 (H : AHp) (b : Nat) (c n : Nat) (B : Bd) (x1 : Int32) (s : Int32 × Int32) : ASt := (4, [some (.ref b), some (.int x1), some (.int s.1), some (.int s.2)], [], H, c, n)
abbrev PX_17_4 (H : AHp) (b : Nat) (c n : Nat) (B : Bd) (x1 : Int32) (s : Int32) : ASt := (35, [none, none, some (.int s), none], [], H, c, n)
def J_17_4_j29 (B : Bd) (x1 : Int32) (x2 : Int32) (x3 : Int32) : Option ((Int32 × Int32) ⊕ (Int32)) :=
  some (.inl (x2, (x3 + 1)))
theorem j_17_4_j29 {d : Nat} (hd : 3 ≤ d) {scr : ASc} {res : ARe} {c n : Nat} {H : AHp} {b : Nat} {B : Bd} {x1 : Int32} {x2 : Int32} {x3 : Int32} (hR : Rg H b (Bd.cells b B)) {o : (Int32 × Int32) ⊕ (Int32)} (hr : J_17_4_j29 B x1 x2 x3 = some o) (ka : ∀ s, o = .inl s → Ex d am_M17 scr (P_17_4 H b c n B x1 s) res) (kx : ∀ s, o = .inr s → Ex d am_M17 scr (PX_17_4 H b c n B x1 s) res) : Ex d am_M17 scr (29, [some (.ref b), some (.int x1), some (.int x2), some (.int x3)], [], H, c, n) res := by
  delta J_17_4_j29 at hr
  refine x_b 2 (S2 := (4, [some (.ref b), some (.int x1), some (.int x2), some (.int (x3 + 1))], [], H, c, n)) rfl ?_
  refine x_fg (Lq.s (Lq.s (Lq.s (Lq.s Lq.nil)))) ?_
  exact ka (x2, (x3 + 1)) (Option.some.inj hr).symm
def G_17_4 (B : Bd) (x1 : Int32) (s : Int32 × Int32) : Option ((Int32 × Int32) ⊕ (Int32)) := 
  match s with
  | (x2, x3) =>
    if B.vertices ≤ x3 then
      some (.inr x2)
    else
      (F_16 B x3 x1).bind fun v3 =>
      (F_16 B x2 x1).bind fun v5 =>
      if v3 ≤ v5 then
        J_17_4_j29 B x1 x2 x3
      else
        J_17_4_j29 B x1 x3 x3
theorem g_17_4 {d : Nat} (hd : 3 ≤ d) {scr : ASc} {res : ARe} {c n : Nat} {H : AHp} {b : Nat} {B : Bd} {x1 : Int32} (hR : Rg H b (Bd.cells b B)) {s : Int32 × Int32} {o : (Int32 × Int32) ⊕ (Int32)} (hr : G_17_4 B x1 s = some o) (ka : ∀ s, o = .inl s → Ex d am_M17 scr (P_17_4 H b c n B x1 s) res) (kx : ∀ s, o = .inr s → Ex d am_M17 scr (PX_17_4 H b c n B x1 s) res) : Ex d am_M17 scr (P_17_4 H b c n B x1 s) res := by
  obtain ⟨x2, x3⟩ := s
  delta G_17_4 at hr
  show Ex d am_M17 scr (4, [some (.ref b), some (.int x1), some (.int x2), some (.int x3)], [], H, c, n) res
  refine x_b 1 (S2 := (5, [some (.ref b), some (.int x1), some (.int x2), some (.int x3)], [.int x3], H, c, n)) rfl ?_
  refine x_ldan rfl rfl rfl (hR.lt (i := 0) (show 0 < 6 by decide)) ?_
  refine x_getf rfl rfl (hR.lt (i := 0) (show 0 < 6 by decide)) (hR.at (i := 0) rfl) rfl ?_
  rcases ite_some hr with ⟨h1, hr⟩ | ⟨h1, hr⟩
  · refine x_ct rfl rfl (decide_eq_true h1) ?_
    refine x_fg (Lq.n (Lq.n (Lq.s (Lq.n Lq.nil)))) ?_
    exact kx x2 (Option.some.inj hr).symm
  · refine x_cf rfl rfl (decide_eq_false h1) ?_
    refine x_ldan rfl rfl rfl (hR.lt (i := 0) (show 0 < 6 by decide)) ?_
    refine x_b 2 (S2 := (15, [some (.ref b), some (.int x1), some (.int x2), some (.int x3)], [.int x1, .int x3, .ref b], H, c, n)) rfl ?_
    obtain ⟨v3, h2, hr⟩ := bd_some hr
    refine x_c0 (m_16 hR h2) rfl rfl rfl rfl (am_recv_v (hR.lt (i := 0) (show 0 < 6 by decide)) (hR.at (i := 0) rfl) rfl) (by omega) ?_
    refine x_ldan rfl rfl rfl (hR.lt (i := 0) (show 0 < 6 by decide)) ?_
    refine x_b 2 (S2 := (21, [some (.ref b), some (.int x1), some (.int x2), some (.int x3)], [.int x1, .int x2, .ref b, .int v3], H, c, n)) rfl ?_
    obtain ⟨v5, h4, hr⟩ := bd_some hr
    refine x_c0 (m_16 hR h4) rfl rfl rfl rfl (am_recv_v (hR.lt (i := 0) (show 0 < 6 by decide)) (hR.at (i := 0) rfl) rfl) (by omega) ?_
    rcases ite_some hr with ⟨h6, hr⟩ | ⟨h6, hr⟩
    · refine x_ct rfl rfl (decide_eq_true h6) ?_
      refine x_fg (Lq.s (Lq.s (Lq.s (Lq.s Lq.nil)))) ?_
      exact j_17_4_j29 hd hR hr ka kx
    · refine x_cf rfl rfl (decide_eq_false h6) ?_
      refine x_b 2 (S2 := (29, [some (.ref b), some (.int x1), some (.int x3), some (.int x3)], [], H, c, n)) rfl ?_
      refine x_fg (Lq.s (Lq.s (Lq.s (Lq.s Lq.nil)))) ?_
      exact j_17_4_j29 hd hR hr ka kx
/-- PebbleProofs$Board.farthestFrom(I)I -/
def F_17 (B : Bd) (x1 : Int32) : Option (Int32) :=
  (lw (G_17_4 B x1) 200000 (0, 1)).bind fun v8 =>
  some v8
theorem f_17 {d : Nat} (hd : 3 ≤ d) {scr : ASc} {res : ARe} {c n : Nat} {H : AHp} {b : Nat} {B : Bd} {x1 : Int32} (hR : Rg H b (Bd.cells b B)) {o : Int32} (hr : F_17 B x1 = some o) (kr : res = (.inl (some (.int o)), H, c, n)) : Ex d am_M17 scr (0, [some (.ref b), some (.int x1), none, none], [], H, c, n) res := by
  delta F_17 at hr
  refine x_b 4 (S2 := (4, [some (.ref b), some (.int x1), some (.int 0), some (.int 1)], [], H, c, n)) rfl ?_
  refine x_fg (Lq.s (Lq.s (Lq.s (Lq.s Lq.nil)))) ?_
  obtain ⟨v8, h7, hr⟩ := bd_some hr
  refine x_lw (P := P_17_4 H b c n B x1) (Q := fun x => Ex d am_M17 scr (PX_17_4 H b c n B x1 x) res) (fun s o h1 ka kx => g_17_4 hd hR h1 ka kx) _ (0, 1) _ h7 ?_
  show Ex d am_M17 scr (35, [none, none, some (.int v8), none], [], H, c, n) res
  refine x_b 1 (S2 := (36, [none, none, some (.int v8), none], [.int v8], H, c, n)) rfl ?_
  cases hr
  rw [kr]
  exact x_ret rfl rfl am_ret_i
theorem m_17 {H : AHp} {b : Nat} {B : Bd} {x1 : Int32} (hR : Rg H b (Bd.cells b B)) {o : Int32} (hr : F_17 B x1 = some o) : Rn 4 17 [.ref b, .int x1] H (.inl (some (.int o)), H, 0, 0) :=
  x_meth (M := am_M17) rfl (show 2 ≤ 4 by decide) (f_17 (Nat.le_refl _) hR hr rfl)
abbrev P_18_4 (H : AHp) (b : Nat) (c n : Nat) (B : Bd) (s : Int32 × Int32) : ASt := (4, [some (.ref b), some (.int s.1), some (.int s.2), none], [], H, c, n)
abbrev PX_18_4 (H : AHp) (b : Nat) (c n : Nat) (B : Bd) (s : Int32) : ASt := (42, [none, some (.int s), none, none], [], H, c, n)
abbrev P_18_14 (H : AHp) (b : Nat) (c n : Nat) (B : Bd) (x2 : Int32) (s : Int32 × Int32) : ASt := (14, [some (.ref b), some (.int s.1), some (.int x2), some (.int s.2)], [], H, c, n)
abbrev PX_18_14 (H : AHp) (b : Nat) (c n : Nat) (B : Bd) (x2 : Int32) (s : Int32) : ASt := (36, [some (.ref b), some (.int s), some (.int x2), none], [], H, c, n)
def G_18_14 (B : Bd) (x2 : Int32) (s : Int32 × Int32) : Option ((Int32 × Int32) ⊕ (Int32)) := 
  match s with
  | (x1, x3) =>
    if x2 ≤ x3 then
      some (.inr x1)
    else
      (F_15 B x2 x3).bind fun v4 =>
      some (.inl ((imx x1 v4), (x3 + 1)))
theorem g_18_14 {d : Nat} (hd : 2 ≤ d) {scr : ASc} {res : ARe} {c n : Nat} {H : AHp} {b : Nat} {B : Bd} {x2 : Int32} (hR : Rg H b (Bd.cells b B)) {s : Int32 × Int32} {o : (Int32 × Int32) ⊕ (Int32)} (hr : G_18_14 B x2 s = some o) (ka : ∀ s, o = .inl s → Ex d am_M18 scr (P_18_14 H b c n B x2 s) res) (kx : ∀ s, o = .inr s → Ex d am_M18 scr (PX_18_14 H b c n B x2 s) res) : Ex d am_M18 scr (P_18_14 H b c n B x2 s) res := by
  obtain ⟨x1, x3⟩ := s
  delta G_18_14 at hr
  show Ex d am_M18 scr (14, [some (.ref b), some (.int x1), some (.int x2), some (.int x3)], [], H, c, n) res
  refine x_b 2 (S2 := (16, [some (.ref b), some (.int x1), some (.int x2), some (.int x3)], [.int x2, .int x3], H, c, n)) rfl ?_
  rcases ite_some hr with ⟨h2, hr⟩ | ⟨h2, hr⟩
  · refine x_ct rfl rfl (decide_eq_true h2) ?_
    refine x_fg (Lq.s (Lq.s (Lq.s (Lq.n Lq.nil)))) ?_
    exact kx x1 (Option.some.inj hr).symm
  · refine x_cf rfl rfl (decide_eq_false h2) ?_
    refine x_b 1 (S2 := (20, [some (.ref b), some (.int x1), some (.int x2), some (.int x3)], [.int x1], H, c, n)) rfl ?_
    refine x_ldan rfl rfl rfl (hR.lt (i := 0) (show 0 < 6 by decide)) ?_
    refine x_b 2 (S2 := (23, [some (.ref b), some (.int x1), some (.int x2), some (.int x3)], [.int x3, .int x2, .ref b, .int x1], H, c, n)) rfl ?_
    obtain ⟨v4, h3, hr⟩ := bd_some hr
    refine x_c0 (m_15 hR h3) rfl rfl rfl rfl (am_recv_v (hR.lt (i := 0) (show 0 < 6 by decide)) (hR.at (i := 0) rfl) rfl) (by omega) ?_
    refine x_b 4 (S2 := (14, [some (.ref b), some (.int (imx x1 v4)), some (.int x2), some (.int (x3 + 1))], [], H, c, n)) rfl ?_
    refine x_fg (Lq.s (Lq.s (Lq.s (Lq.s Lq.nil)))) ?_
    exact ka ((imx x1 v4), (x3 + 1)) (Option.some.inj hr).symm
def G_18_4 (B : Bd) (s : Int32 × Int32) : Option ((Int32 × Int32) ⊕ (Int32)) := 
  match s with
  | (x1, x2) =>
    if B.vertices ≤ x2 then
      some (.inr x1)
    else
      (lw (G_18_14 B x2) 200000 (x1, 0)).bind fun v6 =>
      some (.inl (v6, (x2 + 1)))
theorem g_18_4 {d : Nat} (hd : 2 ≤ d) {scr : ASc} {res : ARe} {c n : Nat} {H : AHp} {b : Nat} {B : Bd} (hR : Rg H b (Bd.cells b B)) {s : Int32 × Int32} {o : (Int32 × Int32) ⊕ (Int32)} (hr : G_18_4 B s = some o) (ka : ∀ s, o = .inl s → Ex d am_M18 scr (P_18_4 H b c n B s) res) (kx : ∀ s, o = .inr s → Ex d am_M18 scr (PX_18_4 H b c n B s) res) : Ex d am_M18 scr (P_18_4 H b c n B s) res := by
  obtain ⟨x1, x2⟩ := s
  delta G_18_4 at hr
  show Ex d am_M18 scr (4, [some (.ref b), some (.int x1), some (.int x2), none], [], H, c, n) res
  refine x_b 1 (S2 := (5, [some (.ref b), some (.int x1), some (.int x2), none], [.int x2], H, c, n)) rfl ?_
  refine x_ldan rfl rfl rfl (hR.lt (i := 0) (show 0 < 6 by decide)) ?_
  refine x_getf rfl rfl (hR.lt (i := 0) (show 0 < 6 by decide)) (hR.at (i := 0) rfl) rfl ?_
  rcases ite_some hr with ⟨h1, hr⟩ | ⟨h1, hr⟩
  · refine x_ct rfl rfl (decide_eq_true h1) ?_
    refine x_fg (Lq.n (Lq.s (Lq.n (Lq.s Lq.nil)))) ?_
    exact kx x1 (Option.some.inj hr).symm
  · refine x_cf rfl rfl (decide_eq_false h1) ?_
    refine x_b 2 (S2 := (14, [some (.ref b), some (.int x1), some (.int x2), some (.int 0)], [], H, c, n)) rfl ?_
    refine x_fg (Lq.s (Lq.s (Lq.s (Lq.s Lq.nil)))) ?_
    obtain ⟨v6, h5, hr⟩ := bd_some hr
    refine x_lw (P := P_18_14 H b c n B x2) (Q := fun x => Ex d am_M18 scr (PX_18_14 H b c n B x2 x) res) (fun s o h1 ka kx => g_18_14 hd hR h1 ka kx) _ (x1, 0) _ h5 ?_
    show Ex d am_M18 scr (36, [some (.ref b), some (.int v6), some (.int x2), none], [], H, c, n) res
    refine x_b 2 (S2 := (4, [some (.ref b), some (.int v6), some (.int (x2 + 1)), none], [], H, c, n)) rfl ?_
    refine x_fg (Lq.s (Lq.s (Lq.s (Lq.s Lq.nil)))) ?_
    exact ka (v6, (x2 + 1)) (Option.some.inj hr).symm
/-- PebbleProofs$Board.diameter()I -/
def F_18 (B : Bd) : Option (Int32) :=
  (lw (G_18_4 B) 200000 (0, 0)).bind fun v9 =>
  some v9
theorem f_18 {d : Nat} (hd : 2 ≤ d) {scr : ASc} {res : ARe} {c n : Nat} {H : AHp} {b : Nat} {B : Bd} (hR : Rg H b (Bd.cells b B)) {o : Int32} (hr : F_18 B = some o) (kr : res = (.inl (some (.int o)), H, c, n)) : Ex d am_M18 scr (0, [some (.ref b), none, none, none], [], H, c, n) res := by
  delta F_18 at hr
  refine x_b 4 (S2 := (4, [some (.ref b), some (.int 0), some (.int 0), none], [], H, c, n)) rfl ?_
  refine x_fg (Lq.s (Lq.s (Lq.s (Lq.s Lq.nil)))) ?_
  obtain ⟨v9, h8, hr⟩ := bd_some hr
  refine x_lw (P := P_18_4 H b c n B) (Q := fun x => Ex d am_M18 scr (PX_18_4 H b c n B x) res) (fun s o h1 ka kx => g_18_4 hd hR h1 ka kx) _ (0, 0) _ h8 ?_
  show Ex d am_M18 scr (42, [none, some (.int v9), none, none], [], H, c, n) res
  refine x_b 1 (S2 := (43, [none, some (.int v9), none, none], [.int v9], H, c, n)) rfl ?_
  cases hr
  rw [kr]
  exact x_ret rfl rfl am_ret_i
theorem m_18 {H : AHp} {b : Nat} {B : Bd} (hR : Rg H b (Bd.cells b B)) {o : Int32} (hr : F_18 B = some o) : Rn 3 18 [.ref b] H (.inl (some (.int o)), H, 0, 0) :=
  x_meth (M := am_M18) rfl (show 1 ≤ 4 by decide) (f_18 (Nat.le_refl _) hR hr rfl)
abbrev P_20_5 (H : AHp) (b : Nat) (c n : Nat) (B : Bd) (x1 : Int32) (x2 : Int32) (s : Int32 × Int32) : ASt := (5, [some (.ref b), some (.int x1), some (.int x2), some (.int s.1), some (.int s.2)], [], H, c, n)
abbrev PX_20_5 (H : AHp) (b : Nat) (c n : Nat) (B : Bd) (x1 : Int32) (x2 : Int32) (s : Int32) : ASt := (51, [none, none, none, some (.int s), none], [], H, c, n)
def J_20_5_j45 (B : Bd) (x1 : Int32) (x2 : Int32) (x3 : Int32) (x4 : Int32) : Option ((Int32 × Int32) ⊕ (Int32)) :=
  some (.inl (x3, (x4 + 1)))
theorem j_20_5_j45 {d : Nat} (hd : 2 ≤ d) {scr : ASc} {res : ARe} {c n : Nat} {H : AHp} {b : Nat} {B : Bd} {x1 : Int32} {x2 : Int32} {x3 : Int32} {x4 : Int32} (hR : Rg H b (Bd.cells b B)) {o : (Int32 × Int32) ⊕ (Int32)} (hr : J_20_5_j45 B x1 x2 x3 x4 = some o) (ka : ∀ s, o = .inl s → Ex d am_M20 scr (P_20_5 H b c n B x1 x2 s) res) (kx : ∀ s, o = .inr s → Ex d am_M20 scr (PX_20_5 H b c n B x1 x2 s) res) : Ex d am_M20 scr (45, [some (.ref b), some (.int x1), some (.int x2), some (.int x3), some (.int x4)], [], H, c, n) res := by
  delta J_20_5_j45 at hr
  refine x_b 2 (S2 := (5, [some (.ref b), some (.int x1), some (.int x2), some (.int x3), some (.int (x4 + 1))], [], H, c, n)) rfl ?_
  refine x_fg (Lq.s (Lq.s (Lq.s (Lq.s (Lq.s Lq.nil))))) ?_
  exact ka (x3, (x4 + 1)) (Option.some.inj hr).symm
def G_20_5 (B : Bd) (x1 : Int32) (x2 : Int32) (s : Int32 × Int32) : Option ((Int32 × Int32) ⊕ (Int32)) := 
  match s with
  | (x3, x4) =>
    if B.vertices ≤ x4 then
      some (.inr x3)
    else
      (F_15 B x1 x4).bind fun v3 =>
      (F_15 B x4 x2).bind fun v5 =>
      (F_15 B x1 x2).bind fun v7 =>
      if ¬ (v3 + v5) = v7 then
        J_20_5_j45 B x1 x2 x3 x4
      else
        J_20_5_j45 B x1 x2 (x3 ||| (1 <<< (x4 &&& 31))) x4
theorem g_20_5 {d : Nat} (hd : 2 ≤ d) {scr : ASc} {res : ARe} {c n : Nat} {H : AHp} {b : Nat} {B : Bd} {x1 : Int32} {x2 : Int32} (hR : Rg H b (Bd.cells b B)) {s : Int32 × Int32} {o : (Int32 × Int32) ⊕ (Int32)} (hr : G_20_5 B x1 x2 s = some o) (ka : ∀ s, o = .inl s → Ex d am_M20 scr (P_20_5 H b c n B x1 x2 s) res) (kx : ∀ s, o = .inr s → Ex d am_M20 scr (PX_20_5 H b c n B x1 x2 s) res) : Ex d am_M20 scr (P_20_5 H b c n B x1 x2 s) res := by
  obtain ⟨x3, x4⟩ := s
  delta G_20_5 at hr
  show Ex d am_M20 scr (5, [some (.ref b), some (.int x1), some (.int x2), some (.int x3), some (.int x4)], [], H, c, n) res
  refine x_b 1 (S2 := (7, [some (.ref b), some (.int x1), some (.int x2), some (.int x3), some (.int x4)], [.int x4], H, c, n)) rfl ?_
  refine x_ldan rfl rfl rfl (hR.lt (i := 0) (show 0 < 6 by decide)) ?_
  refine x_getf rfl rfl (hR.lt (i := 0) (show 0 < 6 by decide)) (hR.at (i := 0) rfl) rfl ?_
  rcases ite_some hr with ⟨h1, hr⟩ | ⟨h1, hr⟩
  · refine x_ct rfl rfl (decide_eq_true h1) ?_
    refine x_fg (Lq.n (Lq.n (Lq.n (Lq.s (Lq.n Lq.nil))))) ?_
    exact kx x3 (Option.some.inj hr).symm
  · refine x_cf rfl rfl (decide_eq_false h1) ?_
    refine x_ldan rfl rfl rfl (hR.lt (i := 0) (show 0 < 6 by decide)) ?_
    refine x_b 2 (S2 := (18, [some (.ref b), some (.int x1), some (.int x2), some (.int x3), some (.int x4)], [.int x4, .int x1, .ref b], H, c, n)) rfl ?_
    obtain ⟨v3, h2, hr⟩ := bd_some hr
    refine x_c0 (m_15 hR h2) rfl rfl rfl rfl (am_recv_v (hR.lt (i := 0) (show 0 < 6 by decide)) (hR.at (i := 0) rfl) rfl) (by omega) ?_
    refine x_ldan rfl rfl rfl (hR.lt (i := 0) (show 0 < 6 by decide)) ?_
    refine x_b 2 (S2 := (25, [some (.ref b), some (.int x1), some (.int x2), some (.int x3), some (.int x4)], [.int x2, .int x4, .ref b, .int v3], H, c, n)) rfl ?_
    obtain ⟨v5, h4, hr⟩ := bd_some hr
    refine x_c0 (m_15 hR h4) rfl rfl rfl rfl (am_recv_v (hR.lt (i := 0) (show 0 < 6 by decide)) (hR.at (i := 0) rfl) rfl) (by omega) ?_
    refine x_b 1 (S2 := (29, [some (.ref b), some (.int x1), some (.int x2), some (.int x3), some (.int x4)], [.int (v3 + v5)], H, c, n)) rfl ?_
    refine x_ldan rfl rfl rfl (hR.lt (i := 0) (show 0 < 6 by decide)) ?_
    refine x_b 2 (S2 := (32, [some (.ref b), some (.int x1), some (.int x2), some (.int x3), some (.int x4)], [.int x2, .int x1, .ref b, .int (v3 + v5)], H, c, n)) rfl ?_
    obtain ⟨v7, h6, hr⟩ := bd_some hr
    refine x_c0 (m_15 hR h6) rfl rfl rfl rfl (am_recv_v (hR.lt (i := 0) (show 0 < 6 by decide)) (hR.at (i := 0) rfl) rfl) (by omega) ?_
    rcases ite_some hr with ⟨h8, hr⟩ | ⟨h8, hr⟩
    · refine x_ct rfl rfl (decide_eq_true h8) ?_
      refine x_fg (Lq.s (Lq.s (Lq.s (Lq.s (Lq.s Lq.nil))))) ?_
      exact j_20_5_j45 hd hR hr ka kx
    · refine x_cf rfl rfl (decide_eq_false h8) ?_
      refine x_b 6 (S2 := (45, [some (.ref b), some (.int x1), some (.int x2), some (.int (x3 ||| (1 <<< (x4 &&& 31)))), some (.int x4)], [], H, c, n)) rfl ?_
      refine x_fg (Lq.s (Lq.s (Lq.s (Lq.s (Lq.s Lq.nil))))) ?_
      exact j_20_5_j45 hd hR hr ka kx
/-- PebbleProofs$Board.pathBetween(II)I -/
def F_20 (B : Bd) (x1 : Int32) (x2 : Int32) : Option (Int32) :=
  (lw (G_20_5 B x1 x2) 200000 (0, 0)).bind fun v10 =>
  some v10
theorem f_20 {d : Nat} (hd : 2 ≤ d) {scr : ASc} {res : ARe} {c n : Nat} {H : AHp} {b : Nat} {B : Bd} {x1 : Int32} {x2 : Int32} (hR : Rg H b (Bd.cells b B)) {o : Int32} (hr : F_20 B x1 x2 = some o) (kr : res = (.inl (some (.int o)), H, c, n)) : Ex d am_M20 scr (0, [some (.ref b), some (.int x1), some (.int x2), none, none], [], H, c, n) res := by
  delta F_20 at hr
  refine x_b 4 (S2 := (5, [some (.ref b), some (.int x1), some (.int x2), some (.int 0), some (.int 0)], [], H, c, n)) rfl ?_
  refine x_fg (Lq.s (Lq.s (Lq.s (Lq.s (Lq.s Lq.nil))))) ?_
  obtain ⟨v10, h9, hr⟩ := bd_some hr
  refine x_lw (P := P_20_5 H b c n B x1 x2) (Q := fun x => Ex d am_M20 scr (PX_20_5 H b c n B x1 x2 x) res) (fun s o h1 ka kx => g_20_5 hd hR h1 ka kx) _ (0, 0) _ h9 ?_
  show Ex d am_M20 scr (51, [none, none, none, some (.int v10), none], [], H, c, n) res
  refine x_b 1 (S2 := (52, [none, none, none, some (.int v10), none], [.int v10], H, c, n)) rfl ?_
  cases hr
  rw [kr]
  exact x_ret rfl rfl am_ret_i
theorem m_20 {H : AHp} {b : Nat} {B : Bd} {x1 : Int32} {x2 : Int32} (hR : Rg H b (Bd.cells b B)) {o : Int32} (hr : F_20 B x1 x2 = some o) : Rn 3 20 [.ref b, .int x1, .int x2] H (.inl (some (.int o)), H, 0, 0) :=
  x_meth (M := am_M20) rfl (show 3 ≤ 5 by decide) (f_20 (Nat.le_refl _) hR hr rfl)
abbrev P_19_9 (H : AHp) (b : Nat) (c n : Nat) (B : Bd) (x1 : Int32) (s : Int32 × Int32 × Int32) : ASt := (9, [some (.ref b), some (.int x1), some (.int s.1), some (.int s.2.1), some (.int s.2.2), none], [], H, c, n)
abbrev PX_19_9 (H : AHp) (b : Nat) (c n : Nat) (B : Bd) (x1 : Int32) (s : Int32) : ASt := (55, [none, none, none, some (.int s), none, none], [], H, c, n)
def G_19_9 (B : Bd) (x1 : Int32) (s : Int32 × Int32 × Int32) : Option ((Int32 × Int32 × Int32) ⊕ (Int32)) := 
  match s with
  | (x2, x3, x4) =>
    if B.vertices ≤ x4 then
      some (.inr x3)
    else
      (F_17 B x2).bind fun v3 =>
      (F_16 B v3 x2).bind fun v5 =>
      (F_20 B x1 v3).bind fun v7 =>
      some (.inl ((x2 ||| v7), (x3 + ((1 <<< (v5 &&& 31)) - 1)), (x4 + 1)))
theorem g_19_9 {d : Nat} (hd : 4 ≤ d) {scr : ASc} {res : ARe} {c n : Nat} {H : AHp} {b : Nat} {B : Bd} {x1 : Int32} (hR : Rg H b (Bd.cells b B)) {s : Int32 × Int32 × Int32} {o : (Int32 × Int32 × Int32) ⊕ (Int32)} (hr : G_19_9 B x1 s = some o) (ka : ∀ s, o = .inl s → Ex d am_M19 scr (P_19_9 H b c n B x1 s) res) (kx : ∀ s, o = .inr s → Ex d am_M19 scr (PX_19_9 H b c n B x1 s) res) : Ex d am_M19 scr (P_19_9 H b c n B x1 s) res := by
  obtain ⟨x2, x3, x4⟩ := s
  delta G_19_9 at hr
  show Ex d am_M19 scr (9, [some (.ref b), some (.int x1), some (.int x2), some (.int x3), some (.int x4), none], [], H, c, n) res
  refine x_b 1 (S2 := (11, [some (.ref b), some (.int x1), some (.int x2), some (.int x3), some (.int x4), none], [.int x4], H, c, n)) rfl ?_
  refine x_ldan rfl rfl rfl (hR.lt (i := 0) (show 0 < 6 by decide)) ?_
  refine x_getf rfl rfl (hR.lt (i := 0) (show 0 < 6 by decide)) (hR.at (i := 0) rfl) rfl ?_
  rcases ite_some hr with ⟨h1, hr⟩ | ⟨h1, hr⟩
  · refine x_ct rfl rfl (decide_eq_true h1) ?_
    refine x_fg (Lq.n (Lq.n (Lq.n (Lq.s (Lq.n (Lq.s Lq.nil)))))) ?_
    exact kx x3 (Option.some.inj hr).symm
  · refine x_cf rfl rfl (decide_eq_false h1) ?_
    refine x_ldan rfl rfl rfl (hR.lt (i := 0) (show 0 < 6 by decide)) ?_
    refine x_b 1 (S2 := (20, [some (.ref b), some (.int x1), some (.int x2), some (.int x3), some (.int x4), none], [.int x2, .ref b], H, c, n)) rfl ?_
    obtain ⟨v3, h2, hr⟩ := bd_some hr
    refine x_c0 (m_17 hR h2) rfl rfl rfl rfl (am_recv_v (hR.lt (i := 0) (show 0 < 6 by decide)) (hR.at (i := 0) rfl) rfl) (by omega) ?_
    refine x_b 3 (S2 := (27, [some (.ref b), some (.int x1), some (.int x2), some (.int x3), some (.int x4), some (.int v3)], [.int 1, .int x3], H, c, n)) rfl ?_
    refine x_ldan rfl rfl rfl (hR.lt (i := 0) (show 0 < 6 by decide)) ?_
    refine x_b 2 (S2 := (31, [some (.ref b), some (.int x1), some (.int x2), some (.int x3), some (.int x4), some (.int v3)], [.int x2, .int v3, .ref b, .int 1, .int x3], H, c, n)) rfl ?_
    obtain ⟨v5, h4, hr⟩ := bd_some hr
    refine x_c0 (m_16 hR h4) rfl rfl rfl rfl (am_recv_v (hR.lt (i := 0) (show 0 < 6 by decide)) (hR.at (i := 0) rfl) rfl) (by omega) ?_
    refine x_b 6 (S2 := (40, [some (.ref b), some (.int x1), some (.int x2), some (.int (x3 + ((1 <<< (v5 &&& 31)) - 1))), some (.int x4), some (.int v3)], [.int x2], H, c, n)) rfl ?_
    refine x_ldan rfl rfl rfl (hR.lt (i := 0) (show 0 < 6 by decide)) ?_
    refine x_b 2 (S2 := (44, [some (.ref b), some (.int x1), some (.int x2), some (.int (x3 + ((1 <<< (v5 &&& 31)) - 1))), some (.int x4), some (.int v3)], [.int v3, .int x1, .ref b, .int x2], H, c, n)) rfl ?_
    obtain ⟨v7, h6, hr⟩ := bd_some hr
    refine x_c0 (m_20 hR h6) rfl rfl rfl rfl (am_recv_v (hR.lt (i := 0) (show 0 < 6 by decide)) (hR.at (i := 0) rfl) rfl) (by omega) ?_
    refine x_b 4 (S2 := (9, [some (.ref b), some (.int x1), some (.int (x2 ||| v7)), some (.int (x3 + ((1 <<< (v5 &&& 31)) - 1))), some (.int (x4 + 1)), some (.int v3)], [], H, c, n)) rfl ?_
    refine x_fg (Lq.s (Lq.s (Lq.s (Lq.s (Lq.s (Lq.n Lq.nil)))))) ?_
    exact ka ((x2 ||| v7), (x3 + ((1 <<< (v5 &&& 31)) - 1)), (x4 + 1)) (Option.some.inj hr).symm
/-- PebbleProofs$Board.numberByPaths(I)I -/
def F_19 (B : Bd) (x1 : Int32) : Option (Int32) :=
  (lw (G_19_9 B x1) 200000 ((1 <<< (x1 &&& 31)), 1, 1)).bind fun v9 =>
  some v9
theorem f_19 {d : Nat} (hd : 4 ≤ d) {scr : ASc} {res : ARe} {c n : Nat} {H : AHp} {b : Nat} {B : Bd} {x1 : Int32} (hR : Rg H b (Bd.cells b B)) {o : Int32} (hr : F_19 B x1 = some o) (kr : res = (.inl (some (.int o)), H, c, n)) : Ex d am_M19 scr (0, [some (.ref b), some (.int x1), none, none, none, none], [], H, c, n) res := by
  delta F_19 at hr
  refine x_b 8 (S2 := (9, [some (.ref b), some (.int x1), some (.int (1 <<< (x1 &&& 31))), some (.int 1), some (.int 1), none], [], H, c, n)) rfl ?_
  refine x_fg (Lq.s (Lq.s (Lq.s (Lq.s (Lq.s (Lq.s Lq.nil)))))) ?_
  obtain ⟨v9, h8, hr⟩ := bd_some hr
  refine x_lw (P := P_19_9 H b c n B x1) (Q := fun x => Ex d am_M19 scr (PX_19_9 H b c n B x1 x) res) (fun s o h1 ka kx => g_19_9 hd hR h1 ka kx) _ ((1 <<< (x1 &&& 31)), 1, 1) _ h8 ?_
  show Ex d am_M19 scr (55, [none, none, none, some (.int v9), none, none], [], H, c, n) res
  refine x_b 1 (S2 := (56, [none, none, none, some (.int v9), none, none], [.int v9], H, c, n)) rfl ?_
  cases hr
  rw [kr]
  exact x_ret rfl rfl am_ret_i
theorem m_19 {H : AHp} {b : Nat} {B : Bd} {x1 : Int32} (hR : Rg H b (Bd.cells b B)) {o : Int32} (hr : F_19 B x1 = some o) : Rn 5 19 [.ref b, .int x1] H (.inl (some (.int o)), H, 0, 0) :=
  x_meth (M := am_M19) rfl (show 2 ≤ 6 by decide) (f_19 (Nat.le_refl _) hR hr rfl)
abbrev P_21_4 (H : AHp) (b : Nat) (c n : Nat) (B : Bd) (x1 : Int32) (s : Int32 × Int32) : ASt := (4, [some (.ref b), some (.int x1), some (.int s.1), some (.int s.2)], [], H, c, n)
abbrev PX_21_4 (H : AHp) (b : Nat) (c n : Nat) (B : Bd) (x1 : Int32) (s : Int32) : ASt := (29, [none, none, some (.int s), none], [], H, c, n)
def G_21_4 (B : Bd) (x1 : Int32) (s : Int32 × Int32) : Option ((Int32 × Int32) ⊕ (Int32)) := 
  match s with
  | (x2, x3) =>
    if B.vertices ≤ x3 then
      some (.inr x2)
    else
      (F_15 B x1 x3).bind fun v3 =>
      some (.inl ((x2 + (1 <<< (v3 &&& 31))), (x3 + 1)))
theorem g_21_4 {d : Nat} (hd : 2 ≤ d) {scr : ASc} {res : ARe} {c n : Nat} {H : AHp} {b : Nat} {B : Bd} {x1 : Int32} (hR : Rg H b (Bd.cells b B)) {s : Int32 × Int32} {o : (Int32 × Int32) ⊕ (Int32)} (hr : G_21_4 B x1 s = some o) (ka : ∀ s, o = .inl s → Ex d am_M21 scr (P_21_4 H b c n B x1 s) res) (kx : ∀ s, o = .inr s → Ex d am_M21 scr (PX_21_4 H b c n B x1 s) res) : Ex d am_M21 scr (P_21_4 H b c n B x1 s) res := by
  obtain ⟨x2, x3⟩ := s
  delta G_21_4 at hr
  show Ex d am_M21 scr (4, [some (.ref b), some (.int x1), some (.int x2), some (.int x3)], [], H, c, n) res
  refine x_b 1 (S2 := (5, [some (.ref b), some (.int x1), some (.int x2), some (.int x3)], [.int x3], H, c, n)) rfl ?_
  refine x_ldan rfl rfl rfl (hR.lt (i := 0) (show 0 < 6 by decide)) ?_
  refine x_getf rfl rfl (hR.lt (i := 0) (show 0 < 6 by decide)) (hR.at (i := 0) rfl) rfl ?_
  rcases ite_some hr with ⟨h1, hr⟩ | ⟨h1, hr⟩
  · refine x_ct rfl rfl (decide_eq_true h1) ?_
    refine x_fg (Lq.n (Lq.n (Lq.s (Lq.n Lq.nil)))) ?_
    exact kx x2 (Option.some.inj hr).symm
  · refine x_cf rfl rfl (decide_eq_false h1) ?_
    refine x_b 2 (S2 := (14, [some (.ref b), some (.int x1), some (.int x2), some (.int x3)], [.int 1, .int x2], H, c, n)) rfl ?_
    refine x_ldan rfl rfl rfl (hR.lt (i := 0) (show 0 < 6 by decide)) ?_
    refine x_b 2 (S2 := (17, [some (.ref b), some (.int x1), some (.int x2), some (.int x3)], [.int x3, .int x1, .ref b, .int 1, .int x2], H, c, n)) rfl ?_
    obtain ⟨v3, h2, hr⟩ := bd_some hr
    refine x_c0 (m_15 hR h2) rfl rfl rfl rfl (am_recv_v (hR.lt (i := 0) (show 0 < 6 by decide)) (hR.at (i := 0) rfl) rfl) (by omega) ?_
    refine x_b 5 (S2 := (4, [some (.ref b), some (.int x1), some (.int (x2 + (1 <<< (v3 &&& 31)))), some (.int (x3 + 1))], [], H, c, n)) rfl ?_
    refine x_fg (Lq.s (Lq.s (Lq.s (Lq.s Lq.nil)))) ?_
    exact ka ((x2 + (1 <<< (v3 &&& 31))), (x3 + 1)) (Option.some.inj hr).symm
/-- PebbleProofs$Board.stackFor(I)I -/
def F_21 (B : Bd) (x1 : Int32) : Option (Int32) :=
  (lw (G_21_4 B x1) 200000 (0, 0)).bind fun v5 =>
  some v5
theorem f_21 {d : Nat} (hd : 2 ≤ d) {scr : ASc} {res : ARe} {c n : Nat} {H : AHp} {b : Nat} {B : Bd} {x1 : Int32} (hR : Rg H b (Bd.cells b B)) {o : Int32} (hr : F_21 B x1 = some o) (kr : res = (.inl (some (.int o)), H, c, n)) : Ex d am_M21 scr (0, [some (.ref b), some (.int x1), none, none], [], H, c, n) res := by
  delta F_21 at hr
  refine x_b 4 (S2 := (4, [some (.ref b), some (.int x1), some (.int 0), some (.int 0)], [], H, c, n)) rfl ?_
  refine x_fg (Lq.s (Lq.s (Lq.s (Lq.s Lq.nil)))) ?_
  obtain ⟨v5, h4, hr⟩ := bd_some hr
  refine x_lw (P := P_21_4 H b c n B x1) (Q := fun x => Ex d am_M21 scr (PX_21_4 H b c n B x1 x) res) (fun s o h1 ka kx => g_21_4 hd hR h1 ka kx) _ (0, 0) _ h4 ?_
  show Ex d am_M21 scr (29, [none, none, some (.int v5), none], [], H, c, n) res
  refine x_b 1 (S2 := (30, [none, none, some (.int v5), none], [.int v5], H, c, n)) rfl ?_
  cases hr
  rw [kr]
  exact x_ret rfl rfl am_ret_i
theorem m_21 {H : AHp} {b : Nat} {B : Bd} {x1 : Int32} (hR : Rg H b (Bd.cells b B)) {o : Int32} (hr : F_21 B x1 = some o) : Rn 3 21 [.ref b, .int x1] H (.inl (some (.int o)), H, 0, 0) :=
  x_meth (M := am_M21) rfl (show 2 ≤ 4 by decide) (f_21 (Nat.le_refl _) hR hr rfl)
abbrev P_22_4 (H : AHp) (b : Nat) (c n : Nat) (B : Bd) (s : Int32 × Int32) : ASt := (4, [some (.ref b), some (.int s.1), some (.int s.2)], [], H, c, n)
abbrev PX_22_4 (H : AHp) (b : Nat) (c n : Nat) (B : Bd) (s : Int32) : ASt := (27, [none, some (.int s), none], [], H, c, n)
def G_22_4 (B : Bd) (s : Int32 × Int32) : Option ((Int32 × Int32) ⊕ (Int32)) := 
  match s with
  | (x1, x2) =>
    if B.vertices ≤ x2 then
      some (.inr x1)
    else
      (ix x2 6).bind fun i2 =>
      some (.inl ((x1 + (B.pile i2)), (x2 + 1)))
theorem g_22_4 {d : Nat} (hd : 1 ≤ d) {scr : ASc} {res : ARe} {c n : Nat} {H : AHp} {b : Nat} {B : Bd} (hR : Rg H b (Bd.cells b B)) {s : Int32 × Int32} {o : (Int32 × Int32) ⊕ (Int32)} (hr : G_22_4 B s = some o) (ka : ∀ s, o = .inl s → Ex d am_M22 scr (P_22_4 H b c n B s) res) (kx : ∀ s, o = .inr s → Ex d am_M22 scr (PX_22_4 H b c n B s) res) : Ex d am_M22 scr (P_22_4 H b c n B s) res := by
  obtain ⟨x1, x2⟩ := s
  delta G_22_4 at hr
  show Ex d am_M22 scr (4, [some (.ref b), some (.int x1), some (.int x2)], [], H, c, n) res
  refine x_b 1 (S2 := (5, [some (.ref b), some (.int x1), some (.int x2)], [.int x2], H, c, n)) rfl ?_
  refine x_ldan rfl rfl rfl (hR.lt (i := 0) (show 0 < 6 by decide)) ?_
  refine x_getf rfl rfl (hR.lt (i := 0) (show 0 < 6 by decide)) (hR.at (i := 0) rfl) rfl ?_
  rcases ite_some hr with ⟨h1, hr⟩ | ⟨h1, hr⟩
  · refine x_ct rfl rfl (decide_eq_true h1) ?_
    refine x_fg (Lq.n (Lq.s (Lq.n Lq.nil))) ?_
    exact kx x1 (Option.some.inj hr).symm
  · refine x_cf rfl rfl (decide_eq_false h1) ?_
    refine x_b 1 (S2 := (13, [some (.ref b), some (.int x1), some (.int x2)], [.int x1], H, c, n)) rfl ?_
    refine x_ldan rfl rfl rfl (hR.lt (i := 0) (show 0 < 6 by decide)) ?_
    refine x_getf rfl rfl (hR.lt (i := 0) (show 0 < 6 by decide)) (hR.at (i := 0) rfl) rfl ?_
    refine x_b 1 (S2 := (18, [some (.ref b), some (.int x1), some (.int x2)], [.int x2, .ref (b + 1), .int x1], H, c, n)) rfl ?_
    obtain ⟨i2, h3, hr⟩ := bd_some hr
    refine x_iald rfl rfl (hR.lt (i := 1) (show 1 < 6 by decide)) (hR.at (i := 1) rfl) h3 ?_
    refine x_b 4 (S2 := (4, [some (.ref b), some (.int (x1 + (B.pile i2))), some (.int (x2 + 1))], [], H, c, n)) rfl ?_
    refine x_fg (Lq.s (Lq.s (Lq.s Lq.nil))) ?_
    exact ka ((x1 + (B.pile i2)), (x2 + 1)) (Option.some.inj hr).symm
/-- PebbleProofs$Board.allPebbles()I -/
def F_22 (B : Bd) : Option (Int32) :=
  (lw (G_22_4 B) 200000 (0, 0)).bind fun v5 =>
  some v5
theorem f_22 {d : Nat} (hd : 1 ≤ d) {scr : ASc} {res : ARe} {c n : Nat} {H : AHp} {b : Nat} {B : Bd} (hR : Rg H b (Bd.cells b B)) {o : Int32} (hr : F_22 B = some o) (kr : res = (.inl (some (.int o)), H, c, n)) : Ex d am_M22 scr (0, [some (.ref b), none, none], [], H, c, n) res := by
  delta F_22 at hr
  refine x_b 4 (S2 := (4, [some (.ref b), some (.int 0), some (.int 0)], [], H, c, n)) rfl ?_
  refine x_fg (Lq.s (Lq.s (Lq.s Lq.nil))) ?_
  obtain ⟨v5, h4, hr⟩ := bd_some hr
  refine x_lw (P := P_22_4 H b c n B) (Q := fun x => Ex d am_M22 scr (PX_22_4 H b c n B x) res) (fun s o h1 ka kx => g_22_4 hd hR h1 ka kx) _ (0, 0) _ h4 ?_
  show Ex d am_M22 scr (27, [none, some (.int v5), none], [], H, c, n) res
  refine x_b 1 (S2 := (28, [none, some (.int v5), none], [.int v5], H, c, n)) rfl ?_
  cases hr
  rw [kr]
  exact x_ret rfl rfl am_ret_i
theorem m_22 {H : AHp} {b : Nat} {B : Bd} (hR : Rg H b (Bd.cells b B)) {o : Int32} (hr : F_22 B = some o) : Rn 2 22 [.ref b] H (.inl (some (.int o)), H, 0, 0) :=
  x_meth (M := am_M22) rfl (show 1 ≤ 3 by decide) (f_22 (Nat.le_refl _) hR hr rfl)
def J_23_0_j36 (B : Bd) (t0 : Int32) : Option (Int32) :=
  if t0 = 0 ∨ t0 = 1 then some t0 else none
theorem j_23_0_j36 {d : Nat} (hd : 2 ≤ d) {scr : ASc} {res : ARe} {c n : Nat} {H : AHp} {b : Nat} {B : Bd} {t0 : Int32} (hR : Rg H b (Bd.cells b B)) {o : Int32} (hr : J_23_0_j36 B t0 = some o) (kr : res = (.inl (some (.int o)), H, c, n)) : Ex d am_M23 scr (36, [none, none, none], [.int t0], H, c, n) res := by
  delta J_23_0_j36 at hr
  obtain ⟨h4, hr⟩ := itn_some hr
  cases hr
  rw [kr]
  exact x_ret rfl rfl (am_ret_z h4)
def J_23_0_j35 (B : Bd) : Option (Int32) :=
  J_23_0_j36 B 0
theorem j_23_0_j35 {d : Nat} (hd : 2 ≤ d) {scr : ASc} {res : ARe} {c n : Nat} {H : AHp} {b : Nat} {B : Bd} (hR : Rg H b (Bd.cells b B)) {o : Int32} (hr : J_23_0_j35 B = some o) (kr : res = (.inl (some (.int o)), H, c, n)) : Ex d am_M23 scr (35, [none, none, none], [], H, c, n) res := by
  delta J_23_0_j35 at hr
  refine x_b 1 (S2 := (36, [none, none, none], [.int 0], H, c, n)) rfl ?_
  refine x_fg (Lq.s (Lq.s (Lq.s Lq.nil))) ?_
  exact j_23_0_j36 hd hR hr kr
/-- PebbleProofs$Board.allowsMove(II)Z -/
def F_23 (B : Bd) (x1 : Int32) (x2 : Int32) : Option (Int32) :=
  (ix x1 6).bind fun i1 =>
  if (B.pile i1) < 2 then
    J_23_0_j35 B
  else
    (F_6 B x1 x2).bind fun v6 =>
    if v6 = 0 then
      J_23_0_j35 B
    else
      (ix x2 6).bind fun i8 =>
      if 999 ≤ (B.pile i8) then
        J_23_0_j35 B
      else
        J_23_0_j36 B 1
theorem f_23 {d : Nat} (hd : 2 ≤ d) {scr : ASc} {res : ARe} {c n : Nat} {H : AHp} {b : Nat} {B : Bd} {x1 : Int32} {x2 : Int32} (hR : Rg H b (Bd.cells b B)) {o : Int32} (hr : F_23 B x1 x2 = some o) (kr : res = (.inl (some (.int o)), H, c, n)) : Ex d am_M23 scr (0, [some (.ref b), some (.int x1), some (.int x2)], [], H, c, n) res := by
  delta F_23 at hr
  refine x_ldan rfl rfl rfl (hR.lt (i := 0) (show 0 < 6 by decide)) ?_
  refine x_getf rfl rfl (hR.lt (i := 0) (show 0 < 6 by decide)) (hR.at (i := 0) rfl) rfl ?_
  refine x_b 1 (S2 := (5, [some (.ref b), some (.int x1), some (.int x2)], [.int x1, .ref (b + 1)], H, c, n)) rfl ?_
  obtain ⟨i1, h2, hr⟩ := bd_some hr
  refine x_iald rfl rfl (hR.lt (i := 1) (show 1 < 6 by decide)) (hR.at (i := 1) rfl) h2 ?_
  refine x_b 1 (S2 := (7, [some (.ref b), some (.int x1), some (.int x2)], [.int 2, .int (B.pile i1)], H, c, n)) rfl ?_
  rcases ite_some hr with ⟨h3, hr⟩ | ⟨h3, hr⟩
  · refine x_ct rfl rfl (decide_eq_true h3) ?_
    refine x_fg (Lq.n (Lq.n (Lq.n Lq.nil))) ?_
    exact j_23_0_j35 hd hR hr kr
  · refine x_cf rfl rfl (decide_eq_false h3) ?_
    refine x_ldan rfl rfl rfl (hR.lt (i := 0) (show 0 < 6 by decide)) ?_
    refine x_b 2 (S2 := (13, [some (.ref b), some (.int x1), some (.int x2)], [.int x2, .int x1, .ref b], H, c, n)) rfl ?_
    obtain ⟨v6, h5, hr⟩ := bd_some hr
    refine x_c0 (m_6 hR h5) rfl rfl rfl rfl (am_recv_v (hR.lt (i := 0) (show 0 < 6 by decide)) (hR.at (i := 0) rfl) rfl) (by omega) ?_
    rcases ite_some hr with ⟨h7, hr⟩ | ⟨h7, hr⟩
    · refine x_zt rfl rfl (decide_eq_true h7) ?_
      refine x_fg (Lq.n (Lq.n (Lq.n Lq.nil))) ?_
      exact j_23_0_j35 hd hR hr kr
    · refine x_zf rfl rfl (decide_eq_false h7) ?_
      refine x_ldan rfl rfl rfl (hR.lt (i := 0) (show 0 < 6 by decide)) ?_
      refine x_getf rfl rfl (hR.lt (i := 0) (show 0 < 6 by decide)) (hR.at (i := 0) rfl) rfl ?_
      refine x_b 1 (S2 := (24, [some (.ref b), some (.int x1), some (.int x2)], [.int x2, .ref (b + 1)], H, c, n)) rfl ?_
      obtain ⟨i8, h9, hr⟩ := bd_some hr
      refine x_iald rfl rfl (hR.lt (i := 1) (show 1 < 6 by decide)) (hR.at (i := 1) rfl) h9 ?_
      refine x_b 1 (S2 := (28, [some (.ref b), some (.int x1), some (.int x2)], [.int 999, .int (B.pile i8)], H, c, n)) rfl ?_
      rcases ite_some hr with ⟨h10, hr⟩ | ⟨h10, hr⟩
      · refine x_ct rfl rfl (decide_eq_true h10) ?_
        refine x_fg (Lq.n (Lq.n (Lq.n Lq.nil))) ?_
        exact j_23_0_j35 hd hR hr kr
      · refine x_cf rfl rfl (decide_eq_false h10) ?_
        refine x_b 2 (S2 := (36, [some (.ref b), some (.int x1), some (.int x2)], [.int 1], H, c, n)) rfl ?_
        refine x_fg (Lq.n (Lq.n (Lq.n Lq.nil))) ?_
        exact j_23_0_j36 hd hR hr kr
theorem m_23 {H : AHp} {b : Nat} {B : Bd} {x1 : Int32} {x2 : Int32} (hR : Rg H b (Bd.cells b B)) {o : Int32} (hr : F_23 B x1 x2 = some o) : Rn 3 23 [.ref b, .int x1, .int x2] H (.inl (some (.int o)), H, 0, 0) :=
  x_meth (M := am_M23) rfl (show 3 ≤ 3 by decide) (f_23 (Nat.le_refl _) hR hr rfl)
/-- PebbleProofs$Board.makeMove(II)V -/
def F_24 (B : Bd) (x1 : Int32) (x2 : Int32) : Option (Bd) :=
  (ix x1 6).bind fun i1 =>
  (some (B.w_pile (upd B.pile i1 ((B.pile i1) - 2)))).bind fun B3 =>
  (ix x2 6).bind fun i5 =>
  (some (B3.w_pile (upd B3.pile i5 ((B3.pile i5) + 1)))).bind fun B7 =>
  (some (B7.w_moveCount (B7.moveCount + 1))).bind fun B9 =>
  some B9
theorem f_24 {d : Nat} (hd : 1 ≤ d) {scr : ASc} {res : ARe} {c n : Nat} {h : AHp} {b : Nat} (hb : b + 6 ≤ am_SB) (hh : b + 6 ≤ h.length) {B : Bd} {x1 : Int32} {x2 : Int32} {o : Bd} (hr : F_24 B x1 x2 = some o) (kr : res = (.inl (none), hput h b (Bd.cells b o), c, n)) : Ex d am_M24 scr (0, [some (.ref b), some (.int x1), some (.int x2)], [], (hput h b (Bd.cells b B)), c, n) res := by
  delta F_24 at hr
  refine x_ldan rfl rfl rfl (h_lt (i := 0) hb (by decide)) ?_
  refine x_getf rfl rfl (h_lt (i := 0) hb (by decide)) (hp_at (i := 0) hh rfl rfl) rfl ?_
  refine x_b 2 (S2 := (6, [some (.ref b), some (.int x1), some (.int x2)], [.int x1, .ref (b + 1), .int x1, .ref (b + 1)], (hput h b (Bd.cells b B)), c, n)) rfl ?_
  obtain ⟨i1, h2, hr⟩ := bd_some hr
  refine x_iald rfl rfl (h_lt (i := 1) hb (by decide)) (hp_at (i := 1) hh rfl rfl) h2 ?_
  refine x_b 2 (S2 := (9, [some (.ref b), some (.int x1), some (.int x2)], [.int ((B.pile i1) - 2), .int x1, .ref (b + 1)], (hput h b (Bd.cells b B)), c, n)) rfl ?_
  obtain ⟨B3, h4, hr⟩ := bd_some hr
  refine x_iast (H := (hput h b (Bd.cells b B3))) rfl rfl (h_lt (i := 1) hb (by decide)) (hp_at (i := 1) hh rfl rfl) h2 (hp_set (i := 1) hh rfl (by decide) (Bd.s_pile h4)) ?_
  refine x_ldan rfl rfl rfl (h_lt (i := 0) hb (by decide)) ?_
  refine x_getf rfl rfl (h_lt (i := 0) hb (by decide)) (hp_at (i := 0) hh rfl rfl) rfl ?_
  refine x_b 2 (S2 := (16, [some (.ref b), some (.int x1), some (.int x2)], [.int x2, .ref (b + 1), .int x2, .ref (b + 1)], (hput h b (Bd.cells b B3)), c, n)) rfl ?_
  obtain ⟨i5, h6, hr⟩ := bd_some hr
  refine x_iald rfl rfl (h_lt (i := 1) hb (by decide)) (hp_at (i := 1) hh rfl rfl) h6 ?_
  refine x_b 2 (S2 := (19, [some (.ref b), some (.int x1), some (.int x2)], [.int ((B3.pile i5) + 1), .int x2, .ref (b + 1)], (hput h b (Bd.cells b B3)), c, n)) rfl ?_
  obtain ⟨B7, h8, hr⟩ := bd_some hr
  refine x_iast (H := (hput h b (Bd.cells b B7))) rfl rfl (h_lt (i := 1) hb (by decide)) (hp_at (i := 1) hh rfl rfl) h6 (hp_set (i := 1) hh rfl (by decide) (Bd.s_pile h8)) ?_
  refine x_ldan rfl rfl rfl (h_lt (i := 0) hb (by decide)) ?_
  refine x_b 1 (S2 := (22, [some (.ref b), some (.int x1), some (.int x2)], [.ref b, .ref b], (hput h b (Bd.cells b B7)), c, n)) rfl ?_
  refine x_getf rfl rfl (h_lt (i := 0) hb (by decide)) (hp_at (i := 0) hh rfl rfl) rfl ?_
  refine x_b 2 (S2 := (27, [some (.ref b), some (.int x1), some (.int x2)], [.int (B7.moveCount + 1), .ref b], (hput h b (Bd.cells b B7)), c, n)) rfl ?_
  obtain ⟨B9, h10, hr⟩ := bd_some hr
  refine x_putf (H := (hput h b (Bd.cells b B9))) rfl rfl (h_lt (i := 0) hb (by decide)) (hp_at (i := 0) hh rfl rfl) ⟨(show 2 < 9 by decide), rfl, rfl, nofun⟩ (hp_set (i := 0) hh rfl (by decide) (Bd.s_moveCount rfl h10)) ?_
  cases hr
  rw [kr]
  exact x_ret rfl rfl rfl
theorem m_24 {h : AHp} {b : Nat} (hb : b + 6 ≤ am_SB) (hh : b + 6 ≤ h.length) {B : Bd} {x1 : Int32} {x2 : Int32} {o : Bd} (hr : F_24 B x1 x2 = some o) : Rn 2 24 [.ref b, .int x1, .int x2] (hput h b (Bd.cells b B)) (.inl (none), hput h b (Bd.cells b o), 0, 0) :=
  x_meth (M := am_M24) rfl (show 3 ≤ 3 by decide) (f_24 (Nat.le_refl _) hb hh hr rfl)
/-- PebbleProofs$Board.setWeight(IIII)V -/
def F_27 (B : Bd) (x1 : Int32) (x2 : Int32) (x3 : Int32) (x4 : Int32) : Option (Bd) :=
  (ix ((6 * x1) + x2) 36).bind fun i1 =>
  (some (B.w_weights (upd B.weights i1 x4))).bind fun B3 =>
  (some (B3.w_parents (upd B3.parents i1 x3))).bind fun B5 =>
  some B5
theorem f_27 {d : Nat} (hd : 1 ≤ d) {scr : ASc} {res : ARe} {c n : Nat} {h : AHp} {b : Nat} (hb : b + 6 ≤ am_SB) (hh : b + 6 ≤ h.length) {B : Bd} {x1 : Int32} {x2 : Int32} {x3 : Int32} {x4 : Int32} {o : Bd} (hr : F_27 B x1 x2 x3 x4 = some o) (kr : res = (.inl (none), hput h b (Bd.cells b o), c, n)) : Ex d am_M27 scr (0, [some (.ref b), some (.int x1), some (.int x2), some (.int x3), some (.int x4)], [], (hput h b (Bd.cells b B)), c, n) res := by
  delta F_27 at hr
  refine x_ldan rfl rfl rfl (h_lt (i := 0) hb (by decide)) ?_
  refine x_getf rfl rfl (h_lt (i := 0) hb (by decide)) (hp_at (i := 0) hh rfl rfl) rfl ?_
  refine x_b 6 (S2 := (12, [some (.ref b), some (.int x1), some (.int x2), some (.int x3), some (.int x4)], [.int x4, .int ((6 * x1) + x2), .ref (b + 4)], (hput h b (Bd.cells b B)), c, n)) rfl ?_
  obtain ⟨i1, h2, hr⟩ := bd_some hr
  obtain ⟨B3, h4, hr⟩ := bd_some hr
  refine x_iast (H := (hput h b (Bd.cells b B3))) rfl rfl (h_lt (i := 4) hb (by decide)) (hp_at (i := 4) hh rfl rfl) h2 (hp_set (i := 4) hh rfl (by decide) (Bd.s_weights h4)) ?_
  refine x_ldan rfl rfl rfl (h_lt (i := 0) hb (by decide)) ?_
  refine x_getf rfl rfl (h_lt (i := 0) hb (by decide)) (hp_at (i := 0) hh rfl rfl) rfl ?_
  refine x_b 6 (S2 := (24, [some (.ref b), some (.int x1), some (.int x2), some (.int x3), some (.int x4)], [.int x3, .int ((6 * x1) + x2), .ref (b + 5)], (hput h b (Bd.cells b B3)), c, n)) rfl ?_
  obtain ⟨B5, h6, hr⟩ := bd_some hr
  refine x_iast (H := (hput h b (Bd.cells b B5))) rfl rfl (h_lt (i := 5) hb (by decide)) (hp_at (i := 5) hh rfl rfl) h2 (hp_set (i := 5) hh rfl (by decide) (Bd.s_parents h6)) ?_
  cases hr
  rw [kr]
  exact x_ret rfl rfl rfl
theorem m_27 {h : AHp} {b : Nat} (hb : b + 6 ≤ am_SB) (hh : b + 6 ≤ h.length) {B : Bd} {x1 : Int32} {x2 : Int32} {x3 : Int32} {x4 : Int32} {o : Bd} (hr : F_27 B x1 x2 x3 x4 = some o) : Rn 2 27 [.ref b, .int x1, .int x2, .int x3, .int x4] (hput h b (Bd.cells b B)) (.inl (none), hput h b (Bd.cells b o), 0, 0) :=
  x_meth (M := am_M27) rfl (show 5 ≤ 5 by decide) (f_27 (Nat.le_refl _) hb hh hr rfl)
abbrev P_25_14 (h : AHp) (b : Nat) (c n : Nat) (x2 : Int32) (s : Int32 × (Bd)) : ASt := (14, [some (.ref b), none, some (.int x2), some (.int s.1)], [], (hput h b (Bd.cells b s.2)), c, n)
abbrev PX_25_14 (h : AHp) (b : Nat) (c n : Nat) (x2 : Int32) (s : (Bd)) : ASt := (34, [some (.ref b), none, none, none], [], (hput h b (Bd.cells b s)), c, n)
def G_25_14 (x2 : Int32) (s : Int32 × (Bd)) : Option ((Int32 × (Bd)) ⊕ ((Bd))) := 
  match s with
  | (x3, B) =>
    if 6 ≤ x3 then
      some (.inr B)
    else
      (F_27 B x2 x3 (-1) 0).bind fun B7 =>
      some (.inl ((x3 + 1), B7))
theorem g_25_14 {d : Nat} (hd : 2 ≤ d) {scr : ASc} {res : ARe} {c n : Nat} {h : AHp} {b : Nat} (hb : b + 6 ≤ am_SB) (hh : b + 6 ≤ h.length) {x2 : Int32} {s : Int32 × (Bd)} {o : (Int32 × (Bd)) ⊕ ((Bd))} (hr : G_25_14 x2 s = some o) (ka : ∀ s, o = .inl s → Ex d am_M25 scr (P_25_14 h b c n x2 s) res) (kx : ∀ s, o = .inr s → Ex d am_M25 scr (PX_25_14 h b c n x2 s) res) : Ex d am_M25 scr (P_25_14 h b c n x2 s) res := by
  obtain ⟨x3, B⟩ := s
  delta G_25_14 at hr
  show Ex d am_M25 scr (14, [some (.ref b), none, some (.int x2), some (.int x3)], [], (hput h b (Bd.cells b B)), c, n) res
  refine x_b 2 (S2 := (17, [some (.ref b), none, some (.int x2), some (.int x3)], [.int 6, .int x3], (hput h b (Bd.cells b B)), c, n)) rfl ?_
  rcases ite_some hr with ⟨h5, hr⟩ | ⟨h5, hr⟩
  · refine x_ct rfl rfl (decide_eq_true h5) ?_
    refine x_fg (Lq.s (Lq.s (Lq.n (Lq.n Lq.nil)))) ?_
    exact kx B (Option.some.inj hr).symm
  · refine x_cf rfl rfl (decide_eq_false h5) ?_
    refine x_ldan rfl rfl rfl (h_lt (i := 0) hb (by decide)) ?_
    refine x_b 4 (S2 := (25, [some (.ref b), none, some (.int x2), some (.int x3)], [.int 0, .int (-1), .int x3, .int x2, .ref b], (hput h b (Bd.cells b B)), c, n)) rfl ?_
    obtain ⟨B7, h6, hr⟩ := bd_some hr
    refine x_c0 (m_27 hb hh h6) rfl rfl rfl rfl (am_recv_v (h_lt (i := 0) hb (by decide)) (hp_at (i := 0) hh rfl rfl) rfl) (by omega) ?_
    refine x_b 2 (S2 := (14, [some (.ref b), none, some (.int x2), some (.int (x3 + 1))], [], (hput h b (Bd.cells b B7)), c, n)) rfl ?_
    refine x_fg (Lq.s (Lq.s (Lq.s (Lq.s Lq.nil)))) ?_
    exact ka ((x3 + 1), B7) (Option.some.inj hr).symm
/-- PebbleProofs$Board.openStrategy(I)V -/
def F_25 (B : Bd) (x1 : Int32) : Option (Bd) :=
  (ix B.strategyCount 6).bind fun i1 =>
  (some (B.w_targets (upd B.targets i1 x1))).bind fun B3 =>
  (lw (G_25_14 B.strategyCount) 200000 (0, B3)).bind fun B9 =>
  (some (B9.w_strategyCount (B9.strategyCount + 1))).bind fun B11 =>
  some B11
theorem f_25 {d : Nat} (hd : 2 ≤ d) {scr : ASc} {res : ARe} {c n : Nat} {h : AHp} {b : Nat} (hb : b + 6 ≤ am_SB) (hh : b + 6 ≤ h.length) {B : Bd} {x1 : Int32} {o : Bd} (hr : F_25 B x1 = some o) (kr : res = (.inl (none), hput h b (Bd.cells b o), c, n)) : Ex d am_M25 scr (0, [some (.ref b), some (.int x1), none, none], [], (hput h b (Bd.cells b B)), c, n) res := by
  delta F_25 at hr
  refine x_ldan rfl rfl rfl (h_lt (i := 0) hb (by decide)) ?_
  refine x_getf rfl rfl (h_lt (i := 0) hb (by decide)) (hp_at (i := 0) hh rfl rfl) rfl ?_
  refine x_b 1 (S2 := (5, [some (.ref b), some (.int x1), some (.int B.strategyCount), none], [], (hput h b (Bd.cells b B)), c, n)) rfl ?_
  refine x_ldan rfl rfl rfl (h_lt (i := 0) hb (by decide)) ?_
  refine x_getf rfl rfl (h_lt (i := 0) hb (by decide)) (hp_at (i := 0) hh rfl rfl) rfl ?_
  refine x_b 2 (S2 := (11, [some (.ref b), some (.int x1), some (.int B.strategyCount), none], [.int x1, .int B.strategyCount, .ref (b + 3)], (hput h b (Bd.cells b B)), c, n)) rfl ?_
  obtain ⟨i1, h2, hr⟩ := bd_some hr
  obtain ⟨B3, h4, hr⟩ := bd_some hr
  refine x_iast (H := (hput h b (Bd.cells b B3))) rfl rfl (h_lt (i := 3) hb (by decide)) (hp_at (i := 3) hh rfl rfl) h2 (hp_set (i := 3) hh rfl (by decide) (Bd.s_targets h4)) ?_
  refine x_b 2 (S2 := (14, [some (.ref b), some (.int x1), some (.int B.strategyCount), some (.int 0)], [], (hput h b (Bd.cells b B3)), c, n)) rfl ?_
  refine x_fg (Lq.s (Lq.n (Lq.s (Lq.s Lq.nil)))) ?_
  obtain ⟨B9, h8, hr⟩ := bd_some hr
  refine x_lw (P := P_25_14 h b c n B.strategyCount) (Q := fun x => Ex d am_M25 scr (PX_25_14 h b c n B.strategyCount x) res) (fun s o h1 ka kx => g_25_14 hd hb hh h1 ka kx) _ (0, B3) _ h8 ?_
  show Ex d am_M25 scr (34, [some (.ref b), none, none, none], [], (hput h b (Bd.cells b B9)), c, n) res
  refine x_ldan rfl rfl rfl (h_lt (i := 0) hb (by decide)) ?_
  refine x_b 1 (S2 := (36, [some (.ref b), none, none, none], [.ref b, .ref b], (hput h b (Bd.cells b B9)), c, n)) rfl ?_
  refine x_getf rfl rfl (h_lt (i := 0) hb (by decide)) (hp_at (i := 0) hh rfl rfl) rfl ?_
  refine x_b 2 (S2 := (41, [some (.ref b), none, none, none], [.int (B9.strategyCount + 1), .ref b], (hput h b (Bd.cells b B9)), c, n)) rfl ?_
  obtain ⟨B11, h12, hr⟩ := bd_some hr
  refine x_putf (H := (hput h b (Bd.cells b B11))) rfl rfl (h_lt (i := 0) hb (by decide)) (hp_at (i := 0) hh rfl rfl) ⟨(show 3 < 9 by decide), rfl, rfl, nofun⟩ (hp_set (i := 0) hh rfl (by decide) (Bd.s_strategyCount rfl h12)) ?_
  cases hr
  rw [kr]
  exact x_ret rfl rfl rfl
theorem m_25 {h : AHp} {b : Nat} (hb : b + 6 ≤ am_SB) (hh : b + 6 ≤ h.length) {B : Bd} {x1 : Int32} {o : Bd} (hr : F_25 B x1 = some o) : Rn 3 25 [.ref b, .int x1] (hput h b (Bd.cells b B)) (.inl (none), hput h b (Bd.cells b o), 0, 0) :=
  x_meth (M := am_M25) rfl (show 2 ≤ 4 by decide) (f_25 (Nat.le_refl _) hb hh hr rfl)
/-- PebbleProofs$Board.parentOf(II)I -/
def F_29 (B : Bd) (x1 : Int32) (x2 : Int32) : Option (Int32) :=
  (ix ((6 * x1) + x2) 36).bind fun i1 =>
  some (B.parents i1)
theorem f_29 {d : Nat} (hd : 1 ≤ d) {scr : ASc} {res : ARe} {c n : Nat} {H : AHp} {b : Nat} {B : Bd} {x1 : Int32} {x2 : Int32} (hR : Rg H b (Bd.cells b B)) {o : Int32} (hr : F_29 B x1 x2 = some o) (kr : res = (.inl (some (.int o)), H, c, n)) : Ex d am_M29 scr (0, [some (.ref b), some (.int x1), some (.int x2)], [], H, c, n) res := by
  delta F_29 at hr
  refine x_ldan rfl rfl rfl (hR.lt (i := 0) (show 0 < 6 by decide)) ?_
  refine x_getf rfl rfl (hR.lt (i := 0) (show 0 < 6 by decide)) (hR.at (i := 0) rfl) rfl ?_
  refine x_b 5 (S2 := (10, [some (.ref b), some (.int x1), some (.int x2)], [.int ((6 * x1) + x2), .ref (b + 5)], H, c, n)) rfl ?_
  obtain ⟨i1, h2, hr⟩ := bd_some hr
  refine x_iald rfl rfl (hR.lt (i := 5) (show 5 < 6 by decide)) (hR.at (i := 5) rfl) h2 ?_
  cases hr
  rw [kr]
  exact x_ret rfl rfl am_ret_i
theorem m_29 {H : AHp} {b : Nat} {B : Bd} {x1 : Int32} {x2 : Int32} (hR : Rg H b (Bd.cells b B)) {o : Int32} (hr : F_29 B x1 x2 = some o) : Rn 2 29 [.ref b, .int x1, .int x2] H (.inl (some (.int o)), H, 0, 0) :=
  x_meth (M := am_M29) rfl (show 3 ≤ 3 by decide) (f_29 (Nat.le_refl _) hR hr rfl)
/-- PebbleProofs$Board.weightOf(II)I -/
def F_28 (B : Bd) (x1 : Int32) (x2 : Int32) : Option (Int32) :=
  (ix ((6 * x1) + x2) 36).bind fun i1 =>
  some (B.weights i1)
theorem f_28 {d : Nat} (hd : 1 ≤ d) {scr : ASc} {res : ARe} {c n : Nat} {H : AHp} {b : Nat} {B : Bd} {x1 : Int32} {x2 : Int32} (hR : Rg H b (Bd.cells b B)) {o : Int32} (hr : F_28 B x1 x2 = some o) (kr : res = (.inl (some (.int o)), H, c, n)) : Ex d am_M28 scr (0, [some (.ref b), some (.int x1), some (.int x2)], [], H, c, n) res := by
  delta F_28 at hr
  refine x_ldan rfl rfl rfl (hR.lt (i := 0) (show 0 < 6 by decide)) ?_
  refine x_getf rfl rfl (hR.lt (i := 0) (show 0 < 6 by decide)) (hR.at (i := 0) rfl) rfl ?_
  refine x_b 5 (S2 := (10, [some (.ref b), some (.int x1), some (.int x2)], [.int ((6 * x1) + x2), .ref (b + 4)], H, c, n)) rfl ?_
  obtain ⟨i1, h2, hr⟩ := bd_some hr
  refine x_iald rfl rfl (hR.lt (i := 4) (show 4 < 6 by decide)) (hR.at (i := 4) rfl) h2 ?_
  cases hr
  rw [kr]
  exact x_ret rfl rfl am_ret_i
theorem m_28 {H : AHp} {b : Nat} {B : Bd} {x1 : Int32} {x2 : Int32} (hR : Rg H b (Bd.cells b B)) {o : Int32} (hr : F_28 B x1 x2 = some o) : Rn 2 28 [.ref b, .int x1, .int x2] H (.inl (some (.int o)), H, 0, 0) :=
  x_meth (M := am_M28) rfl (show 3 ≤ 3 by decide) (f_28 (Nat.le_refl _) hR hr rfl)
abbrev P_26_2 (h : AHp) (b : Nat) (c n : Nat)  (s : Int32 × (Bd)) : ASt := (2, [some (.ref b), none, some (.int s.1), none], [], (hput h b (Bd.cells b s.2)), c, n)
abbrev PX_26_2 (h : AHp) (b : Nat) (c n : Nat)  (s : (Bd)) : ASt := (70, [some (.ref b), none, none, none], [], (hput h b (Bd.cells b s)), c, n)
abbrev P_26_28 (h : AHp) (b : Nat) (c n : Nat) (x2 : Int32) (s : Int32 × (Bd)) : ASt := (28, [some (.ref b), none, some (.int x2), some (.int s.1)], [], (hput h b (Bd.cells b s.2)), c, n)
abbrev PX_26_28 (h : AHp) (b : Nat) (c n : Nat) (x2 : Int32) (s : (Bd)) : ASt := (64, [some (.ref b), none, some (.int x2), none], [], (hput h b (Bd.cells b s)), c, n)
def G_26_28 (x2 : Int32) (s : Int32 × (Bd)) : Option ((Int32 × (Bd)) ⊕ ((Bd))) := 
  match s with
  | (x3, B) =>
    if B.vertices ≤ x3 then
      some (.inr B)
    else
      (F_29 B (x2 + 1) x3).bind fun v10 =>
      (F_28 B (x2 + 1) x3).bind fun v12 =>
      (F_27 B x2 x3 v10 v12).bind fun B14 =>
      some (.inl ((x3 + 1), B14))
theorem g_26_28 {d : Nat} (hd : 2 ≤ d) {scr : ASc} {res : ARe} {c n : Nat} {h : AHp} {b : Nat} (hb : b + 6 ≤ am_SB) (hh : b + 6 ≤ h.length) {x2 : Int32} {s : Int32 × (Bd)} {o : (Int32 × (Bd)) ⊕ ((Bd))} (hr : G_26_28 x2 s = some o) (ka : ∀ s, o = .inl s → Ex d am_M26 scr (P_26_28 h b c n x2 s) res) (kx : ∀ s, o = .inr s → Ex d am_M26 scr (PX_26_28 h b c n x2 s) res) : Ex d am_M26 scr (P_26_28 h b c n x2 s) res := by
  obtain ⟨x3, B⟩ := s
  delta G_26_28 at hr
  show Ex d am_M26 scr (28, [some (.ref b), none, some (.int x2), some (.int x3)], [], (hput h b (Bd.cells b B)), c, n) res
  refine x_b 1 (S2 := (29, [some (.ref b), none, some (.int x2), some (.int x3)], [.int x3], (hput h b (Bd.cells b B)), c, n)) rfl ?_
  refine x_ldan rfl rfl rfl (h_lt (i := 0) hb (by decide)) ?_
  refine x_getf rfl rfl (h_lt (i := 0) hb (by decide)) (hp_at (i := 0) hh rfl rfl) rfl ?_
  rcases ite_some hr with ⟨h8, hr⟩ | ⟨h8, hr⟩
  · refine x_ct rfl rfl (decide_eq_true h8) ?_
    refine x_fg (Lq.s (Lq.s (Lq.s (Lq.n Lq.nil)))) ?_
    exact kx B (Option.some.inj hr).symm
  · refine x_cf rfl rfl (decide_eq_false h8) ?_
    refine x_ldan rfl rfl rfl (h_lt (i := 0) hb (by decide)) ?_
    refine x_b 2 (S2 := (39, [some (.ref b), none, some (.int x2), some (.int x3)], [.int x3, .int x2, .ref b], (hput h b (Bd.cells b B)), c, n)) rfl ?_
    refine x_ldan rfl rfl rfl (h_lt (i := 0) hb (by decide)) ?_
    refine x_b 4 (S2 := (44, [some (.ref b), none, some (.int x2), some (.int x3)], [.int x3, .int (x2 + 1), .ref b, .int x3, .int x2, .ref b], (hput h b (Bd.cells b B)), c, n)) rfl ?_
    obtain ⟨v10, h9, hr⟩ := bd_some hr
    refine x_c0 (m_29 (hp_rg hb hh rfl) h9) rfl rfl rfl rfl (am_recv_v (h_lt (i := 0) hb (by decide)) (hp_at (i := 0) hh rfl rfl) rfl) (by omega) ?_
    refine x_ldan rfl rfl rfl (h_lt (i := 0) hb (by decide)) ?_
    refine x_b 4 (S2 := (52, [some (.ref b), none, some (.int x2), some (.int x3)], [.int x3, .int (x2 + 1), .ref b, .int v10, .int x3, .int x2, .ref b], (hput h b (Bd.cells b B)), c, n)) rfl ?_
    obtain ⟨v12, h11, hr⟩ := bd_some hr
    refine x_c0 (m_28 (hp_rg hb hh rfl) h11) rfl rfl rfl rfl (am_recv_v (h_lt (i := 0) hb (by decide)) (hp_at (i := 0) hh rfl rfl) rfl) (by omega) ?_
    obtain ⟨B14, h13, hr⟩ := bd_some hr
    refine x_c0 (m_27 hb hh h13) rfl rfl rfl rfl (am_recv_v (h_lt (i := 0) hb (by decide)) (hp_at (i := 0) hh rfl rfl) rfl) (by omega) ?_
    refine x_b 2 (S2 := (28, [some (.ref b), none, some (.int x2), some (.int (x3 + 1))], [], (hput h b (Bd.cells b B14)), c, n)) rfl ?_
    refine x_fg (Lq.s (Lq.s (Lq.s (Lq.s Lq.nil)))) ?_
    exact ka ((x3 + 1), B14) (Option.some.inj hr).symm
def G_26_2  (s : Int32 × (Bd)) : Option ((Int32 × (Bd)) ⊕ ((Bd))) := 
  match s with
  | (x2, B) =>
    if B.strategyCount ≤ (x2 + 1) then
      some (.inr B)
    else
      (ix (x2 + 1) 6).bind fun i2 =>
      (ix x2 6).bind fun i4 =>
      (some (B.w_targets (upd B.targets i4 (B.targets i2)))).bind fun B6 =>
      (lw (G_26_28 x2) 200000 (0, B6)).bind fun B16 =>
      some (.inl ((x2 + 1), B16))
theorem g_26_2 {d : Nat} (hd : 2 ≤ d) {scr : ASc} {res : ARe} {c n : Nat} {h : AHp} {b : Nat} (hb : b + 6 ≤ am_SB) (hh : b + 6 ≤ h.length)  {s : Int32 × (Bd)} {o : (Int32 × (Bd)) ⊕ ((Bd))} (hr : G_26_2  s = some o) (ka : ∀ s, o = .inl s → Ex d am_M26 scr (P_26_2 h b c n  s) res) (kx : ∀ s, o = .inr s → Ex d am_M26 scr (PX_26_2 h b c n  s) res) : Ex d am_M26 scr (P_26_2 h b c n  s) res := by
  obtain ⟨x2, B⟩ := s
  delta G_26_2 at hr
  show Ex d am_M26 scr (2, [some (.ref b), none, some (.int x2), none], [], (hput h b (Bd.cells b B)), c, n) res
  refine x_b 3 (S2 := (5, [some (.ref b), none, some (.int x2), none], [.int (x2 + 1)], (hput h b (Bd.cells b B)), c, n)) rfl ?_
  refine x_ldan rfl rfl rfl (h_lt (i := 0) hb (by decide)) ?_
  refine x_getf rfl rfl (h_lt (i := 0) hb (by decide)) (hp_at (i := 0) hh rfl rfl) rfl ?_
  rcases ite_some hr with ⟨h1, hr⟩ | ⟨h1, hr⟩
  · refine x_ct rfl rfl (decide_eq_true h1) ?_
    refine x_fg (Lq.s (Lq.s (Lq.n (Lq.s Lq.nil)))) ?_
    exact kx B (Option.some.inj hr).symm
  · refine x_cf rfl rfl (decide_eq_false h1) ?_
    refine x_ldan rfl rfl rfl (h_lt (i := 0) hb (by decide)) ?_
    refine x_getf rfl rfl (h_lt (i := 0) hb (by decide)) (hp_at (i := 0) hh rfl rfl) rfl ?_
    refine x_b 1 (S2 := (17, [some (.ref b), none, some (.int x2), none], [.int x2, .ref (b + 3)], (hput h b (Bd.cells b B)), c, n)) rfl ?_
    refine x_ldan rfl rfl rfl (h_lt (i := 0) hb (by decide)) ?_
    refine x_getf rfl rfl (h_lt (i := 0) hb (by decide)) (hp_at (i := 0) hh rfl rfl) rfl ?_
    refine x_b 3 (S2 := (24, [some (.ref b), none, some (.int x2), none], [.int (x2 + 1), .ref (b + 3), .int x2, .ref (b + 3)], (hput h b (Bd.cells b B)), c, n)) rfl ?_
    obtain ⟨i2, h3, hr⟩ := bd_some hr
    refine x_iald rfl rfl (h_lt (i := 3) hb (by decide)) (hp_at (i := 3) hh rfl rfl) h3 ?_
    obtain ⟨i4, h5, hr⟩ := bd_some hr
    obtain ⟨B6, h7, hr⟩ := bd_some hr
    refine x_iast (H := (hput h b (Bd.cells b B6))) rfl rfl (h_lt (i := 3) hb (by decide)) (hp_at (i := 3) hh rfl rfl) h5 (hp_set (i := 3) hh rfl (by decide) (Bd.s_targets h7)) ?_
    refine x_b 2 (S2 := (28, [some (.ref b), none, some (.int x2), some (.int 0)], [], (hput h b (Bd.cells b B6)), c, n)) rfl ?_
    refine x_fg (Lq.s (Lq.s (Lq.s (Lq.s Lq.nil)))) ?_
    obtain ⟨B16, h15, hr⟩ := bd_some hr
    refine x_lw (P := P_26_28 h b c n x2) (Q := fun x => Ex d am_M26 scr (PX_26_28 h b c n x2 x) res) (fun s o h1 ka kx => g_26_28 hd hb hh h1 ka kx) _ (0, B6) _ h15 ?_
    show Ex d am_M26 scr (64, [some (.ref b), none, some (.int x2), none], [], (hput h b (Bd.cells b B16)), c, n) res
    refine x_b 2 (S2 := (2, [some (.ref b), none, some (.int (x2 + 1)), none], [], (hput h b (Bd.cells b B16)), c, n)) rfl ?_
    refine x_fg (Lq.s (Lq.s (Lq.s (Lq.s Lq.nil)))) ?_
    exact ka ((x2 + 1), B16) (Option.some.inj hr).symm
/-- PebbleProofs$Board.closeStrategy(I)V -/
def F_26 (B : Bd) (x1 : Int32) : Option (Bd) :=
  (lw (G_26_2 ) 200000 (x1, B)).bind fun B19 =>
  (some (B19.w_strategyCount (B19.strategyCount - 1))).bind fun B21 =>
  some B21
theorem f_26 {d : Nat} (hd : 2 ≤ d) {scr : ASc} {res : ARe} {c n : Nat} {h : AHp} {b : Nat} (hb : b + 6 ≤ am_SB) (hh : b + 6 ≤ h.length) {B : Bd} {x1 : Int32} {o : Bd} (hr : F_26 B x1 = some o) (kr : res = (.inl (none), hput h b (Bd.cells b o), c, n)) : Ex d am_M26 scr (0, [some (.ref b), some (.int x1), none, none], [], (hput h b (Bd.cells b B)), c, n) res := by
  delta F_26 at hr
  refine x_b 2 (S2 := (2, [some (.ref b), some (.int x1), some (.int x1), none], [], (hput h b (Bd.cells b B)), c, n)) rfl ?_
  refine x_fg (Lq.s (Lq.n (Lq.s (Lq.s Lq.nil)))) ?_
  obtain ⟨B19, h18, hr⟩ := bd_some hr
  refine x_lw (P := P_26_2 h b c n ) (Q := fun x => Ex d am_M26 scr (PX_26_2 h b c n  x) res) (fun s o h1 ka kx => g_26_2 hd hb hh h1 ka kx) _ (x1, B) _ h18 ?_
  show Ex d am_M26 scr (70, [some (.ref b), none, none, none], [], (hput h b (Bd.cells b B19)), c, n) res
  refine x_ldan rfl rfl rfl (h_lt (i := 0) hb (by decide)) ?_
  refine x_b 1 (S2 := (72, [some (.ref b), none, none, none], [.ref b, .ref b], (hput h b (Bd.cells b B19)), c, n)) rfl ?_
  refine x_getf rfl rfl (h_lt (i := 0) hb (by decide)) (hp_at (i := 0) hh rfl rfl) rfl ?_
  refine x_b 2 (S2 := (77, [some (.ref b), none, none, none], [.int (B19.strategyCount - 1), .ref b], (hput h b (Bd.cells b B19)), c, n)) rfl ?_
  obtain ⟨B21, h22, hr⟩ := bd_some hr
  refine x_putf (H := (hput h b (Bd.cells b B21))) rfl rfl (h_lt (i := 0) hb (by decide)) (hp_at (i := 0) hh rfl rfl) ⟨(show 3 < 9 by decide), rfl, rfl, nofun⟩ (hp_set (i := 0) hh rfl (by decide) (Bd.s_strategyCount rfl h22)) ?_
  cases hr
  rw [kr]
  exact x_ret rfl rfl rfl
theorem m_26 {h : AHp} {b : Nat} (hb : b + 6 ≤ am_SB) (hh : b + 6 ≤ h.length) {B : Bd} {x1 : Int32} {o : Bd} (hr : F_26 B x1 = some o) : Rn 3 26 [.ref b, .int x1] (hput h b (Bd.cells b B)) (.inl (none), hput h b (Bd.cells b o), 0, 0) :=
  x_meth (M := am_M26) rfl (show 2 ≤ 4 by decide) (f_26 (Nat.le_refl _) hb hh hr rfl)
def J_30_0_j37 (B : Bd) : Option (Int32) :=
  some 0
theorem j_30_0_j37 {d : Nat} (hd : 2 ≤ d) {scr : ASc} {res : ARe} {c n : Nat} {H : AHp} {b : Nat} {B : Bd} (hR : Rg H b (Bd.cells b B)) {o : Int32} (hr : J_30_0_j37 B = some o) (kr : res = (.inl (some (.int o)), H, c, n)) : Ex d am_M30 scr (37, [none, none, none, none, none], [], H, c, n) res := by
  delta J_30_0_j37 at hr
  refine x_b 1 (S2 := (38, [none, none, none, none, none], [.int 0], H, c, n)) rfl ?_
  cases hr
  rw [kr]
  exact x_ret rfl rfl (am_ret_z (by decide))
def J_30_0_j68 (B : Bd) (t0 : Int32) : Option (Int32) :=
  if t0 = 0 ∨ t0 = 1 then some t0 else none
theorem j_30_0_j68 {d : Nat} (hd : 2 ≤ d) {scr : ASc} {res : ARe} {c n : Nat} {H : AHp} {b : Nat} {B : Bd} {t0 : Int32} (hR : Rg H b (Bd.cells b B)) {o : Int32} (hr : J_30_0_j68 B t0 = some o) (kr : res = (.inl (some (.int o)), H, c, n)) : Ex d am_M30 scr (68, [none, none, none, none, none], [.int t0], H, c, n) res := by
  delta J_30_0_j68 at hr
  obtain ⟨h14, hr⟩ := itn_some hr
  cases hr
  rw [kr]
  exact x_ret rfl rfl (am_ret_z h14)
def J_30_0_j63 (B : Bd) : Option (Int32) :=
  J_30_0_j68 B 1
theorem j_30_0_j63 {d : Nat} (hd : 2 ≤ d) {scr : ASc} {res : ARe} {c n : Nat} {H : AHp} {b : Nat} {B : Bd} (hR : Rg H b (Bd.cells b B)) {o : Int32} (hr : J_30_0_j63 B = some o) (kr : res = (.inl (some (.int o)), H, c, n)) : Ex d am_M30 scr (63, [none, none, none, none, none], [], H, c, n) res := by
  delta J_30_0_j63 at hr
  refine x_b 2 (S2 := (68, [none, none, none, none, none], [.int 1], H, c, n)) rfl ?_
  refine x_fg (Lq.s (Lq.s (Lq.s (Lq.s (Lq.s Lq.nil))))) ?_
  exact j_30_0_j68 hd hR hr kr
/-- PebbleProofs$Board.isSound(II)Z -/
def F_30 (B : Bd) (x1 : Int32) (x2 : Int32) : Option (Int32) :=
  (F_28 B x1 x2).bind fun v2 =>
  if ¬ v2 = 0 then
    (F_29 B x1 x2).bind fun v5 =>
    if v5 = (-1) then
      J_30_0_j37 B
    else
      (F_6 B x2 v5).bind fun v9 =>
      if ¬ v9 = 0 then
        (ix x1 6).bind fun i11 =>
        if v5 = (B.targets i11) then
          J_30_0_j63 B
        else
          (F_28 B x1 v5).bind fun v16 =>
          if v16 < (2 * v2) then
            J_30_0_j68 B 0
          else
            J_30_0_j63 B
      else
        J_30_0_j37 B
  else
    some 1
theorem f_30 {d : Nat} (hd : 2 ≤ d) {scr : ASc} {res : ARe} {c n : Nat} {H : AHp} {b : Nat} {B : Bd} {x1 : Int32} {x2 : Int32} (hR : Rg H b (Bd.cells b B)) {o : Int32} (hr : F_30 B x1 x2 = some o) (kr : res = (.inl (some (.int o)), H, c, n)) : Ex d am_M30 scr (0, [some (.ref b), some (.int x1), some (.int x2), none, none], [], H, c, n) res := by
  delta F_30 at hr
  refine x_ldan rfl rfl rfl (hR.lt (i := 0) (show 0 < 6 by decide)) ?_
  refine x_b 2 (S2 := (3, [some (.ref b), some (.int x1), some (.int x2), none, none], [.int x2, .int x1, .ref b], H, c, n)) rfl ?_
  obtain ⟨v2, h1, hr⟩ := bd_some hr
  refine x_c0 (m_28 hR h1) rfl rfl rfl rfl (am_recv_v (hR.lt (i := 0) (show 0 < 6 by decide)) (hR.at (i := 0) rfl) rfl) (by omega) ?_
  refine x_b 2 (S2 := (8, [some (.ref b), some (.int x1), some (.int x2), some (.int v2), none], [.int v2], H, c, n)) rfl ?_
  rcases ite_some hr with ⟨h3, hr⟩ | ⟨h3, hr⟩
  · refine x_zt rfl rfl (decide_eq_true h3) ?_
    refine x_ldan rfl rfl rfl (hR.lt (i := 0) (show 0 < 6 by decide)) ?_
    refine x_b 2 (S2 := (16, [some (.ref b), some (.int x1), some (.int x2), some (.int v2), none], [.int x2, .int x1, .ref b], H, c, n)) rfl ?_
    obtain ⟨v5, h4, hr⟩ := bd_some hr
    refine x_c0 (m_29 hR h4) rfl rfl rfl rfl (am_recv_v (hR.lt (i := 0) (show 0 < 6 by decide)) (hR.at (i := 0) rfl) rfl) (by omega) ?_
    refine x_b 3 (S2 := (24, [some (.ref b), some (.int x1), some (.int x2), some (.int v2), some (.int v5)], [.int (-1), .int v5], H, c, n)) rfl ?_
    rcases ite_some hr with ⟨h6, hr⟩ | ⟨h6, hr⟩
    · refine x_ct rfl rfl (decide_eq_true h6) ?_
      refine x_fg (Lq.n (Lq.n (Lq.n (Lq.n (Lq.n Lq.nil))))) ?_
      exact j_30_0_j37 hd hR hr kr
    · refine x_cf rfl rfl (decide_eq_false h6) ?_
      refine x_ldan rfl rfl rfl (hR.lt (i := 0) (show 0 < 6 by decide)) ?_
      refine x_b 2 (S2 := (31, [some (.ref b), some (.int x1), some (.int x2), some (.int v2), some (.int v5)], [.int v5, .int x2, .ref b], H, c, n)) rfl ?_
      obtain ⟨v9, h8, hr⟩ := bd_some hr
      refine x_c0 (m_6 hR h8) rfl rfl rfl rfl (am_recv_v (hR.lt (i := 0) (show 0 < 6 by decide)) (hR.at (i := 0) rfl) rfl) (by omega) ?_
      rcases ite_some hr with ⟨h10, hr⟩ | ⟨h10, hr⟩
      · refine x_zt rfl rfl (decide_eq_true h10) ?_
        refine x_b 1 (S2 := (41, [some (.ref b), some (.int x1), some (.int x2), some (.int v2), some (.int v5)], [.int v5], H, c, n)) rfl ?_
        refine x_ldan rfl rfl rfl (hR.lt (i := 0) (show 0 < 6 by decide)) ?_
        refine x_getf rfl rfl (hR.lt (i := 0) (show 0 < 6 by decide)) (hR.at (i := 0) rfl) rfl ?_
        refine x_b 1 (S2 := (46, [some (.ref b), some (.int x1), some (.int x2), some (.int v2), some (.int v5)], [.int x1, .ref (b + 3), .int v5], H, c, n)) rfl ?_
        obtain ⟨i11, h12, hr⟩ := bd_some hr
        refine x_iald rfl rfl (hR.lt (i := 3) (show 3 < 6 by decide)) (hR.at (i := 3) rfl) h12 ?_
        rcases ite_some hr with ⟨h13, hr⟩ | ⟨h13, hr⟩
        · refine x_ct rfl rfl (decide_eq_true h13) ?_
          refine x_fg (Lq.n (Lq.n (Lq.n (Lq.n (Lq.n Lq.nil))))) ?_
          exact j_30_0_j63 hd hR hr kr
        · refine x_cf rfl rfl (decide_eq_false h13) ?_
          refine x_ldan rfl rfl rfl (hR.lt (i := 0) (show 0 < 6 by decide)) ?_
          refine x_b 2 (S2 := (54, [some (.ref b), some (.int x1), some (.int x2), some (.int v2), some (.int v5)], [.int v5, .int x1, .ref b], H, c, n)) rfl ?_
          obtain ⟨v16, h15, hr⟩ := bd_some hr
          refine x_c0 (m_28 hR h15) rfl rfl rfl rfl (am_recv_v (hR.lt (i := 0) (show 0 < 6 by decide)) (hR.at (i := 0) rfl) rfl) (by omega) ?_
          refine x_b 3 (S2 := (60, [some (.ref b), some (.int x1), some (.int x2), some (.int v2), some (.int v5)], [.int (2 * v2), .int v16], H, c, n)) rfl ?_
          rcases ite_some hr with ⟨h17, hr⟩ | ⟨h17, hr⟩
          · refine x_ct rfl rfl (decide_eq_true h17) ?_
            refine x_b 1 (S2 := (68, [some (.ref b), some (.int x1), some (.int x2), some (.int v2), some (.int v5)], [.int 0], H, c, n)) rfl ?_
            refine x_fg (Lq.n (Lq.n (Lq.n (Lq.n (Lq.n Lq.nil))))) ?_
            exact j_30_0_j68 hd hR hr kr
          · refine x_cf rfl rfl (decide_eq_false h17) ?_
            refine x_fg (Lq.n (Lq.n (Lq.n (Lq.n (Lq.n Lq.nil))))) ?_
            exact j_30_0_j63 hd hR hr kr
      · refine x_zf rfl rfl (decide_eq_false h10) ?_
        refine x_fg (Lq.n (Lq.n (Lq.n (Lq.n (Lq.n Lq.nil))))) ?_
        exact j_30_0_j37 hd hR hr kr
  · refine x_zf rfl rfl (decide_eq_false h3) ?_
    refine x_b 1 (S2 := (12, [some (.ref b), some (.int x1), some (.int x2), some (.int v2), none], [.int 1], H, c, n)) rfl ?_
    cases hr
    rw [kr]
    exact x_ret rfl rfl (am_ret_z (by decide))
theorem m_30 {H : AHp} {b : Nat} {B : Bd} {x1 : Int32} {x2 : Int32} (hR : Rg H b (Bd.cells b B)) {o : Int32} (hr : F_30 B x1 x2 = some o) : Rn 3 30 [.ref b, .int x1, .int x2] H (.inl (some (.int o)), H, 0, 0) :=
  x_meth (M := am_M30) rfl (show 3 ≤ 5 by decide) (f_30 (Nat.le_refl _) hR hr rfl)
abbrev P_31_2 (H : AHp) (b : Nat) (c n : Nat) (B : Bd) (x1 : Int32) (s : Int32) : ASt := (2, [some (.ref b), some (.int x1), some (.int s)], [], H, c, n)
abbrev PX_31_2 (H : AHp) (b : Nat) (c n : Nat) (B : Bd) (x1 : Int32) (s : Unit) : ASt := (27, [none, none, none], [], H, c, n)
def G_31_2 (B : Bd) (x1 : Int32) (s : Int32) : Option ((Int32) ⊕ (Unit) ⊕ (Int32)) := 
  match s with
  | x2 =>
    if B.vertices ≤ x2 then
      some (.inr (.inl ()))
    else
      (F_30 B x1 x2).bind fun v3 =>
      if ¬ v3 = 0 then
        some (.inl (x2 + 1))
      else
        some (.inr (.inr x2))
theorem g_31_2 {d : Nat} (hd : 3 ≤ d) {scr : ASc} {res : ARe} {c n : Nat} {H : AHp} {b : Nat} {B : Bd} {x1 : Int32} (hR : Rg H b (Bd.cells b B)) {s : Int32} {o : (Int32) ⊕ (Unit) ⊕ (Int32)} (hr : G_31_2 B x1 s = some o) (ka : ∀ s, o = .inl s → Ex d am_M31 scr (P_31_2 H b c n B x1 s) res) (kx : ∀ s, o = .inr (.inl s) → Ex d am_M31 scr (PX_31_2 H b c n B x1 s) res) (kr : ∀ r, o = .inr (.inr r) → res = (.inl (some (.int r)), H, c, n)) : Ex d am_M31 scr (P_31_2 H b c n B x1 s) res := by
  delta G_31_2 at hr
  show Ex d am_M31 scr (2, [some (.ref b), some (.int x1), some (.int s)], [], H, c, n) res
  refine x_b 1 (S2 := (3, [some (.ref b), some (.int x1), some (.int s)], [.int s], H, c, n)) rfl ?_
  refine x_ldan rfl rfl rfl (hR.lt (i := 0) (show 0 < 6 by decide)) ?_
  refine x_getf rfl rfl (hR.lt (i := 0) (show 0 < 6 by decide)) (hR.at (i := 0) rfl) rfl ?_
  rcases ite_some hr with ⟨h1, hr⟩ | ⟨h1, hr⟩
  · refine x_ct rfl rfl (decide_eq_true h1) ?_
    refine x_fg (Lq.n (Lq.n (Lq.n Lq.nil))) ?_
    exact kx () (Option.some.inj hr).symm
  · refine x_cf rfl rfl (decide_eq_false h1) ?_
    refine x_ldan rfl rfl rfl (hR.lt (i := 0) (show 0 < 6 by decide)) ?_
    refine x_b 2 (S2 := (13, [some (.ref b), some (.int x1), some (.int s)], [.int s, .int x1, .ref b], H, c, n)) rfl ?_
    obtain ⟨v3, h2, hr⟩ := bd_some hr
    refine x_c0 (m_30 hR h2) rfl rfl rfl rfl (am_recv_v (hR.lt (i := 0) (show 0 < 6 by decide)) (hR.at (i := 0) rfl) rfl) (by omega) ?_
    rcases ite_some hr with ⟨h4, hr⟩ | ⟨h4, hr⟩
    · refine x_zt rfl rfl (decide_eq_true h4) ?_
      refine x_b 2 (S2 := (2, [some (.ref b), some (.int x1), some (.int (s + 1))], [], H, c, n)) rfl ?_
      refine x_fg (Lq.s (Lq.s (Lq.s Lq.nil))) ?_
      exact ka (s + 1) (Option.some.inj hr).symm
    · refine x_zf rfl rfl (decide_eq_false h4) ?_
      refine x_b 1 (S2 := (20, [some (.ref b), some (.int x1), some (.int s)], [.int s], H, c, n)) rfl ?_
      rw [kr _ (Option.some.inj hr).symm]
      exact x_ret rfl rfl am_ret_i
/-- PebbleProofs$Board.firstFault(I)I -/
def F_31 (B : Bd) (x1 : Int32) : Option (Int32) :=
  (lw (G_31_2 B x1) 200000 0).bind fun r =>
    match r with
    | .inr r7 => some r7
    | .inl _ =>
      some (-1)
theorem f_31 {d : Nat} (hd : 3 ≤ d) {scr : ASc} {res : ARe} {c n : Nat} {H : AHp} {b : Nat} {B : Bd} {x1 : Int32} (hR : Rg H b (Bd.cells b B)) {o : Int32} (hr : F_31 B x1 = some o) (kr : res = (.inl (some (.int o)), H, c, n)) : Ex d am_M31 scr (0, [some (.ref b), some (.int x1), none], [], H, c, n) res := by
  delta F_31 at hr
  refine x_b 2 (S2 := (2, [some (.ref b), some (.int x1), some (.int 0)], [], H, c, n)) rfl ?_
  refine x_fg (Lq.s (Lq.s (Lq.s Lq.nil))) ?_
  obtain ⟨o6, h5, hr⟩ := bd_some hr
  refine x_lw (P := P_31_2 H b c n B x1) (Q := fun x => match x with | .inl e => Ex d am_M31 scr (PX_31_2 H b c n B x1 e) res | .inr r => res = (.inl (some (.int r)), H, c, n)) (fun s o h1 ka kx => g_31_2 hd hR h1 ka (fun e he => kx (.inl e) he) (fun r he => kx (.inr r) he)) _ 0 _ h5 ?_
  rcases o6 with e | r7
  · show Ex d am_M31 scr (27, [none, none, none], [], H, c, n) res
    refine x_b 1 (S2 := (28, [none, none, none], [.int (-1)], H, c, n)) rfl ?_
    cases hr
    rw [kr]
    exact x_ret rfl rfl am_ret_i
  · cases hr; exact kr
theorem m_31 {H : AHp} {b : Nat} {B : Bd} {x1 : Int32} (hR : Rg H b (Bd.cells b B)) {o : Int32} (hr : F_31 B x1 = some o) : Rn 4 31 [.ref b, .int x1] H (.inl (some (.int o)), H, 0, 0) :=
  x_meth (M := am_M31) rfl (show 2 ≤ 3 by decide) (f_31 (Nat.le_refl _) hR hr rfl)
abbrev P_32_4 (H : AHp) (b : Nat) (c n : Nat) (B : Bd) (x1 : Int32) (s : Int32 × Int32) : ASt := (4, [some (.ref b), some (.int x1), some (.int s.1), some (.int s.2)], [], H, c, n)
abbrev PX_32_4 (H : AHp) (b : Nat) (c n : Nat) (B : Bd) (x1 : Int32) (s : Int32) : ASt := (27, [none, none, some (.int s), none], [], H, c, n)
def G_32_4 (B : Bd) (x1 : Int32) (s : Int32 × Int32) : Option ((Int32 × Int32) ⊕ (Int32)) := 
  match s with
  | (x2, x3) =>
    if B.vertices ≤ x3 then
      some (.inr x2)
    else
      (F_28 B x1 x3).bind fun v3 =>
      some (.inl ((x2 + v3), (x3 + 1)))
theorem g_32_4 {d : Nat} (hd : 2 ≤ d) {scr : ASc} {res : ARe} {c n : Nat} {H : AHp} {b : Nat} {B : Bd} {x1 : Int32} (hR : Rg H b (Bd.cells b B)) {s : Int32 × Int32} {o : (Int32 × Int32) ⊕ (Int32)} (hr : G_32_4 B x1 s = some o) (ka : ∀ s, o = .inl s → Ex d am_M32 scr (P_32_4 H b c n B x1 s) res) (kx : ∀ s, o = .inr s → Ex d am_M32 scr (PX_32_4 H b c n B x1 s) res) : Ex d am_M32 scr (P_32_4 H b c n B x1 s) res := by
  obtain ⟨x2, x3⟩ := s
  delta G_32_4 at hr
  show Ex d am_M32 scr (4, [some (.ref b), some (.int x1), some (.int x2), some (.int x3)], [], H, c, n) res
  refine x_b 1 (S2 := (5, [some (.ref b), some (.int x1), some (.int x2), some (.int x3)], [.int x3], H, c, n)) rfl ?_
  refine x_ldan rfl rfl rfl (hR.lt (i := 0) (show 0 < 6 by decide)) ?_
  refine x_getf rfl rfl (hR.lt (i := 0) (show 0 < 6 by decide)) (hR.at (i := 0) rfl) rfl ?_
  rcases ite_some hr with ⟨h1, hr⟩ | ⟨h1, hr⟩
  · refine x_ct rfl rfl (decide_eq_true h1) ?_
    refine x_fg (Lq.n (Lq.n (Lq.s (Lq.n Lq.nil)))) ?_
    exact kx x2 (Option.some.inj hr).symm
  · refine x_cf rfl rfl (decide_eq_false h1) ?_
    refine x_b 1 (S2 := (13, [some (.ref b), some (.int x1), some (.int x2), some (.int x3)], [.int x2], H, c, n)) rfl ?_
    refine x_ldan rfl rfl rfl (hR.lt (i := 0) (show 0 < 6 by decide)) ?_
    refine x_b 2 (S2 := (16, [some (.ref b), some (.int x1), some (.int x2), some (.int x3)], [.int x3, .int x1, .ref b, .int x2], H, c, n)) rfl ?_
    obtain ⟨v3, h2, hr⟩ := bd_some hr
    refine x_c0 (m_28 hR h2) rfl rfl rfl rfl (am_recv_v (hR.lt (i := 0) (show 0 < 6 by decide)) (hR.at (i := 0) rfl) rfl) (by omega) ?_
    refine x_b 4 (S2 := (4, [some (.ref b), some (.int x1), some (.int (x2 + v3)), some (.int (x3 + 1))], [], H, c, n)) rfl ?_
    refine x_fg (Lq.s (Lq.s (Lq.s (Lq.s Lq.nil)))) ?_
    exact ka ((x2 + v3), (x3 + 1)) (Option.some.inj hr).symm
/-- PebbleProofs$Board.weightOfAll(I)I -/
def F_32 (B : Bd) (x1 : Int32) : Option (Int32) :=
  (lw (G_32_4 B x1) 200000 (0, 0)).bind fun v5 =>
  some v5
theorem f_32 {d : Nat} (hd : 2 ≤ d) {scr : ASc} {res : ARe} {c n : Nat} {H : AHp} {b : Nat} {B : Bd} {x1 : Int32} (hR : Rg H b (Bd.cells b B)) {o : Int32} (hr : F_32 B x1 = some o) (kr : res = (.inl (some (.int o)), H, c, n)) : Ex d am_M32 scr (0, [some (.ref b), some (.int x1), none, none], [], H, c, n) res := by
  delta F_32 at hr
  refine x_b 4 (S2 := (4, [some (.ref b), some (.int x1), some (.int 0), some (.int 0)], [], H, c, n)) rfl ?_
  refine x_fg (Lq.s (Lq.s (Lq.s (Lq.s Lq.nil)))) ?_
  obtain ⟨v5, h4, hr⟩ := bd_some hr
  refine x_lw (P := P_32_4 H b c n B x1) (Q := fun x => Ex d am_M32 scr (PX_32_4 H b c n B x1 x) res) (fun s o h1 ka kx => g_32_4 hd hR h1 ka kx) _ (0, 0) _ h4 ?_
  show Ex d am_M32 scr (27, [none, none, some (.int v5), none], [], H, c, n) res
  refine x_b 1 (S2 := (28, [none, none, some (.int v5), none], [.int v5], H, c, n)) rfl ?_
  cases hr
  rw [kr]
  exact x_ret rfl rfl am_ret_i
theorem m_32 {H : AHp} {b : Nat} {B : Bd} {x1 : Int32} (hR : Rg H b (Bd.cells b B)) {o : Int32} (hr : F_32 B x1 = some o) : Rn 3 32 [.ref b, .int x1] H (.inl (some (.int o)), H, 0, 0) :=
  x_meth (M := am_M32) rfl (show 2 ≤ 4 by decide) (f_32 (Nat.le_refl _) hR hr rfl)
abbrev P_33_4 (H : AHp) (b : Nat) (c n : Nat) (B : Bd) (x1 : Int32) (s : Int32 × Int32) : ASt := (4, [some (.ref b), some (.int x1), some (.int s.1), some (.int s.2)], [], H, c, n)
abbrev PX_33_4 (H : AHp) (b : Nat) (c n : Nat) (B : Bd) (x1 : Int32) (s : Int32) : ASt := (34, [none, none, some (.int s), none], [], H, c, n)
def G_33_4 (B : Bd) (x1 : Int32) (s : Int32 × Int32) : Option ((Int32 × Int32) ⊕ (Int32)) := 
  match s with
  | (x2, x3) =>
    if B.vertices ≤ x3 then
      some (.inr x2)
    else
      (F_28 B x1 x3).bind fun v3 =>
      (ix x3 6).bind fun i4 =>
      some (.inl ((x2 + (v3 * (B.pile i4))), (x3 + 1)))
theorem g_33_4 {d : Nat} (hd : 2 ≤ d) {scr : ASc} {res : ARe} {c n : Nat} {H : AHp} {b : Nat} {B : Bd} {x1 : Int32} (hR : Rg H b (Bd.cells b B)) {s : Int32 × Int32} {o : (Int32 × Int32) ⊕ (Int32)} (hr : G_33_4 B x1 s = some o) (ka : ∀ s, o = .inl s → Ex d am_M33 scr (P_33_4 H b c n B x1 s) res) (kx : ∀ s, o = .inr s → Ex d am_M33 scr (PX_33_4 H b c n B x1 s) res) : Ex d am_M33 scr (P_33_4 H b c n B x1 s) res := by
  obtain ⟨x2, x3⟩ := s
  delta G_33_4 at hr
  show Ex d am_M33 scr (4, [some (.ref b), some (.int x1), some (.int x2), some (.int x3)], [], H, c, n) res
  refine x_b 1 (S2 := (5, [some (.ref b), some (.int x1), some (.int x2), some (.int x3)], [.int x3], H, c, n)) rfl ?_
  refine x_ldan rfl rfl rfl (hR.lt (i := 0) (show 0 < 6 by decide)) ?_
  refine x_getf rfl rfl (hR.lt (i := 0) (show 0 < 6 by decide)) (hR.at (i := 0) rfl) rfl ?_
  rcases ite_some hr with ⟨h1, hr⟩ | ⟨h1, hr⟩
  · refine x_ct rfl rfl (decide_eq_true h1) ?_
    refine x_fg (Lq.n (Lq.n (Lq.s (Lq.n Lq.nil)))) ?_
    exact kx x2 (Option.some.inj hr).symm
  · refine x_cf rfl rfl (decide_eq_false h1) ?_
    refine x_b 1 (S2 := (13, [some (.ref b), some (.int x1), some (.int x2), some (.int x3)], [.int x2], H, c, n)) rfl ?_
    refine x_ldan rfl rfl rfl (hR.lt (i := 0) (show 0 < 6 by decide)) ?_
    refine x_b 2 (S2 := (16, [some (.ref b), some (.int x1), some (.int x2), some (.int x3)], [.int x3, .int x1, .ref b, .int x2], H, c, n)) rfl ?_
    obtain ⟨v3, h2, hr⟩ := bd_some hr
    refine x_c0 (m_28 hR h2) rfl rfl rfl rfl (am_recv_v (hR.lt (i := 0) (show 0 < 6 by decide)) (hR.at (i := 0) rfl) rfl) (by omega) ?_
    refine x_ldan rfl rfl rfl (hR.lt (i := 0) (show 0 < 6 by decide)) ?_
    refine x_getf rfl rfl (hR.lt (i := 0) (show 0 < 6 by decide)) (hR.at (i := 0) rfl) rfl ?_
    refine x_b 1 (S2 := (24, [some (.ref b), some (.int x1), some (.int x2), some (.int x3)], [.int x3, .ref (b + 1), .int v3, .int x2], H, c, n)) rfl ?_
    obtain ⟨i4, h5, hr⟩ := bd_some hr
    refine x_iald rfl rfl (hR.lt (i := 1) (show 1 < 6 by decide)) (hR.at (i := 1) rfl) h5 ?_
    refine x_b 5 (S2 := (4, [some (.ref b), some (.int x1), some (.int (x2 + (v3 * (B.pile i4)))), some (.int (x3 + 1))], [], H, c, n)) rfl ?_
    refine x_fg (Lq.s (Lq.s (Lq.s (Lq.s Lq.nil)))) ?_
    exact ka ((x2 + (v3 * (B.pile i4))), (x3 + 1)) (Option.some.inj hr).symm
/-- PebbleProofs$Board.weightOfPile(I)I -/
def F_33 (B : Bd) (x1 : Int32) : Option (Int32) :=
  (lw (G_33_4 B x1) 200000 (0, 0)).bind fun v7 =>
  some v7
theorem f_33 {d : Nat} (hd : 2 ≤ d) {scr : ASc} {res : ARe} {c n : Nat} {H : AHp} {b : Nat} {B : Bd} {x1 : Int32} (hR : Rg H b (Bd.cells b B)) {o : Int32} (hr : F_33 B x1 = some o) (kr : res = (.inl (some (.int o)), H, c, n)) : Ex d am_M33 scr (0, [some (.ref b), some (.int x1), none, none], [], H, c, n) res := by
  delta F_33 at hr
  refine x_b 4 (S2 := (4, [some (.ref b), some (.int x1), some (.int 0), some (.int 0)], [], H, c, n)) rfl ?_
  refine x_fg (Lq.s (Lq.s (Lq.s (Lq.s Lq.nil)))) ?_
  obtain ⟨v7, h6, hr⟩ := bd_some hr
  refine x_lw (P := P_33_4 H b c n B x1) (Q := fun x => Ex d am_M33 scr (PX_33_4 H b c n B x1 x) res) (fun s o h1 ka kx => g_33_4 hd hR h1 ka kx) _ (0, 0) _ h6 ?_
  show Ex d am_M33 scr (34, [none, none, some (.int v7), none], [], H, c, n) res
  refine x_b 1 (S2 := (35, [none, none, some (.int v7), none], [.int v7], H, c, n)) rfl ?_
  cases hr
  rw [kr]
  exact x_ret rfl rfl am_ret_i
theorem m_33 {H : AHp} {b : Nat} {B : Bd} {x1 : Int32} (hR : Rg H b (Bd.cells b B)) {o : Int32} (hr : F_33 B x1 = some o) : Rn 3 33 [.ref b, .int x1] H (.inl (some (.int o)), H, 0, 0) :=
  x_meth (M := am_M33) rfl (show 2 ≤ 4 by decide) (f_33 (Nat.le_refl _) hR hr rfl)
abbrev P_34_4 (H : AHp) (b : Nat) (c n : Nat) (B : Bd) (x1 : Int32) (s : Int32 × Int32) : ASt := (4, [some (.ref b), some (.int x1), some (.int s.1), some (.int s.2)], [], H, c, n)
abbrev PX_34_4 (H : AHp) (b : Nat) (c n : Nat) (B : Bd) (x1 : Int32) (s : Int32) : ASt := (43, [none, none, some (.int s), none], [], H, c, n)
def J_34_4_j37 (B : Bd) (x1 : Int32) (x2 : Int32) (x3 : Int32) : Option ((Int32 × Int32) ⊕ (Int32)) :=
  some (.inl (x2, (x3 + 1)))
theorem j_34_4_j37 {d : Nat} (hd : 4 ≤ d) {scr : ASc} {res : ARe} {c n : Nat} {H : AHp} {b : Nat} {B : Bd} {x1 : Int32} {x2 : Int32} {x3 : Int32} (hR : Rg H b (Bd.cells b B)) {o : (Int32 × Int32) ⊕ (Int32)} (hr : J_34_4_j37 B x1 x2 x3 = some o) (ka : ∀ s, o = .inl s → Ex d am_M34 scr (P_34_4 H b c n B x1 s) res) (kx : ∀ s, o = .inr s → Ex d am_M34 scr (PX_34_4 H b c n B x1 s) res) : Ex d am_M34 scr (37, [some (.ref b), some (.int x1), some (.int x2), some (.int x3)], [], H, c, n) res := by
  delta J_34_4_j37 at hr
  refine x_b 2 (S2 := (4, [some (.ref b), some (.int x1), some (.int x2), some (.int (x3 + 1))], [], H, c, n)) rfl ?_
  refine x_fg (Lq.s (Lq.s (Lq.s (Lq.s Lq.nil)))) ?_
  exact ka (x2, (x3 + 1)) (Option.some.inj hr).symm
def G_34_4 (B : Bd) (x1 : Int32) (s : Int32 × Int32) : Option ((Int32 × Int32) ⊕ (Int32)) := 
  match s with
  | (x2, x3) =>
    if B.strategyCount ≤ x3 then
      some (.inr x2)
    else
      (ix x3 6).bind fun i2 =>
      if ¬ (B.targets i2) = x1 then
        J_34_4_j37 B x1 x2 x3
      else
        (F_31 B x3).bind fun v6 =>
        if ¬ v6 = (-1) then
          J_34_4_j37 B x1 x2 x3
        else
          J_34_4_j37 B x1 (x2 ||| (1 <<< (x3 &&& 31))) x3
theorem g_34_4 {d : Nat} (hd : 4 ≤ d) {scr : ASc} {res : ARe} {c n : Nat} {H : AHp} {b : Nat} {B : Bd} {x1 : Int32} (hR : Rg H b (Bd.cells b B)) {s : Int32 × Int32} {o : (Int32 × Int32) ⊕ (Int32)} (hr : G_34_4 B x1 s = some o) (ka : ∀ s, o = .inl s → Ex d am_M34 scr (P_34_4 H b c n B x1 s) res) (kx : ∀ s, o = .inr s → Ex d am_M34 scr (PX_34_4 H b c n B x1 s) res) : Ex d am_M34 scr (P_34_4 H b c n B x1 s) res := by
  obtain ⟨x2, x3⟩ := s
  delta G_34_4 at hr
  show Ex d am_M34 scr (4, [some (.ref b), some (.int x1), some (.int x2), some (.int x3)], [], H, c, n) res
  refine x_b 1 (S2 := (5, [some (.ref b), some (.int x1), some (.int x2), some (.int x3)], [.int x3], H, c, n)) rfl ?_
  refine x_ldan rfl rfl rfl (hR.lt (i := 0) (show 0 < 6 by decide)) ?_
  refine x_getf rfl rfl (hR.lt (i := 0) (show 0 < 6 by decide)) (hR.at (i := 0) rfl) rfl ?_
  rcases ite_some hr with ⟨h1, hr⟩ | ⟨h1, hr⟩
  · refine x_ct rfl rfl (decide_eq_true h1) ?_
    refine x_fg (Lq.n (Lq.n (Lq.s (Lq.n Lq.nil)))) ?_
    exact kx x2 (Option.some.inj hr).symm
  · refine x_cf rfl rfl (decide_eq_false h1) ?_
    refine x_ldan rfl rfl rfl (hR.lt (i := 0) (show 0 < 6 by decide)) ?_
    refine x_getf rfl rfl (hR.lt (i := 0) (show 0 < 6 by decide)) (hR.at (i := 0) rfl) rfl ?_
    refine x_b 1 (S2 := (17, [some (.ref b), some (.int x1), some (.int x2), some (.int x3)], [.int x3, .ref (b + 3)], H, c, n)) rfl ?_
    obtain ⟨i2, h3, hr⟩ := bd_some hr
    refine x_iald rfl rfl (hR.lt (i := 3) (show 3 < 6 by decide)) (hR.at (i := 3) rfl) h3 ?_
    refine x_b 1 (S2 := (19, [some (.ref b), some (.int x1), some (.int x2), some (.int x3)], [.int x1, .int (B.targets i2)], H, c, n)) rfl ?_
    rcases ite_some hr with ⟨h4, hr⟩ | ⟨h4, hr⟩
    · refine x_ct rfl rfl (decide_eq_true h4) ?_
      refine x_fg (Lq.s (Lq.s (Lq.s (Lq.s Lq.nil)))) ?_
      exact j_34_4_j37 hd hR hr ka kx
    · refine x_cf rfl rfl (decide_eq_false h4) ?_
      refine x_ldan rfl rfl rfl (hR.lt (i := 0) (show 0 < 6 by decide)) ?_
      refine x_b 1 (S2 := (24, [some (.ref b), some (.int x1), some (.int x2), some (.int x3)], [.int x3, .ref b], H, c, n)) rfl ?_
      obtain ⟨v6, h5, hr⟩ := bd_some hr
      refine x_c0 (m_31 hR h5) rfl rfl rfl rfl (am_recv_v (hR.lt (i := 0) (show 0 < 6 by decide)) (hR.at (i := 0) rfl) rfl) (by omega) ?_
      refine x_b 1 (S2 := (28, [some (.ref b), some (.int x1), some (.int x2), some (.int x3)], [.int (-1), .int v6], H, c, n)) rfl ?_
      rcases ite_some hr with ⟨h7, hr⟩ | ⟨h7, hr⟩
      · refine x_ct rfl rfl (decide_eq_true h7) ?_
        refine x_fg (Lq.s (Lq.s (Lq.s (Lq.s Lq.nil)))) ?_
        exact j_34_4_j37 hd hR hr ka kx
      · refine x_cf rfl rfl (decide_eq_false h7) ?_
        refine x_b 6 (S2 := (37, [some (.ref b), some (.int x1), some (.int (x2 ||| (1 <<< (x3 &&& 31)))), some (.int x3)], [], H, c, n)) rfl ?_
        refine x_fg (Lq.s (Lq.s (Lq.s (Lq.s Lq.nil)))) ?_
        exact j_34_4_j37 hd hR hr ka kx
/-- PebbleProofs$Board.validStrategies(I)I -/
def F_34 (B : Bd) (x1 : Int32) : Option (Int32) :=
  (lw (G_34_4 B x1) 200000 (0, 0)).bind fun v9 =>
  some v9
theorem f_34 {d : Nat} (hd : 4 ≤ d) {scr : ASc} {res : ARe} {c n : Nat} {H : AHp} {b : Nat} {B : Bd} {x1 : Int32} (hR : Rg H b (Bd.cells b B)) {o : Int32} (hr : F_34 B x1 = some o) (kr : res = (.inl (some (.int o)), H, c, n)) : Ex d am_M34 scr (0, [some (.ref b), some (.int x1), none, none], [], H, c, n) res := by
  delta F_34 at hr
  refine x_b 4 (S2 := (4, [some (.ref b), some (.int x1), some (.int 0), some (.int 0)], [], H, c, n)) rfl ?_
  refine x_fg (Lq.s (Lq.s (Lq.s (Lq.s Lq.nil)))) ?_
  obtain ⟨v9, h8, hr⟩ := bd_some hr
  refine x_lw (P := P_34_4 H b c n B x1) (Q := fun x => Ex d am_M34 scr (PX_34_4 H b c n B x1 x) res) (fun s o h1 ka kx => g_34_4 hd hR h1 ka kx) _ (0, 0) _ h8 ?_
  show Ex d am_M34 scr (43, [none, none, some (.int v9), none], [], H, c, n) res
  refine x_b 1 (S2 := (44, [none, none, some (.int v9), none], [.int v9], H, c, n)) rfl ?_
  cases hr
  rw [kr]
  exact x_ret rfl rfl am_ret_i
theorem m_34 {H : AHp} {b : Nat} {B : Bd} {x1 : Int32} (hR : Rg H b (Bd.cells b B)) {o : Int32} (hr : F_34 B x1 = some o) : Rn 5 34 [.ref b, .int x1] H (.inl (some (.int o)), H, 0, 0) :=
  x_meth (M := am_M34) rfl (show 2 ≤ 4 by decide) (f_34 (Nat.le_refl _) hR hr rfl)
abbrev P_35_5 (H : AHp) (b : Nat) (c n : Nat) (B : Bd) (x1 : Int32) (x2 : Int32) (s : Int32 × Int32) : ASt := (5, [some (.ref b), some (.int x1), some (.int x2), some (.int s.1), some (.int s.2)], [], H, c, n)
abbrev PX_35_5 (H : AHp) (b : Nat) (c n : Nat) (B : Bd) (x1 : Int32) (x2 : Int32) (s : Int32) : ASt := (39, [none, none, none, some (.int s), none], [], H, c, n)
def J_35_5_j33 (B : Bd) (x1 : Int32) (x2 : Int32) (x3 : Int32) (x4 : Int32) : Option ((Int32 × Int32) ⊕ (Int32)) :=
  some (.inl (x3, (x4 + 1)))
theorem j_35_5_j33 {d : Nat} (hd : 2 ≤ d) {scr : ASc} {res : ARe} {c n : Nat} {H : AHp} {b : Nat} {B : Bd} {x1 : Int32} {x2 : Int32} {x3 : Int32} {x4 : Int32} (hR : Rg H b (Bd.cells b B)) {o : (Int32 × Int32) ⊕ (Int32)} (hr : J_35_5_j33 B x1 x2 x3 x4 = some o) (ka : ∀ s, o = .inl s → Ex d am_M35 scr (P_35_5 H b c n B x1 x2 s) res) (kx : ∀ s, o = .inr s → Ex d am_M35 scr (PX_35_5 H b c n B x1 x2 s) res) : Ex d am_M35 scr (33, [some (.ref b), some (.int x1), some (.int x2), some (.int x3), some (.int x4)], [], H, c, n) res := by
  delta J_35_5_j33 at hr
  refine x_b 2 (S2 := (5, [some (.ref b), some (.int x1), some (.int x2), some (.int x3), some (.int (x4 + 1))], [], H, c, n)) rfl ?_
  refine x_fg (Lq.s (Lq.s (Lq.s (Lq.s (Lq.s Lq.nil))))) ?_
  exact ka (x3, (x4 + 1)) (Option.some.inj hr).symm
def G_35_5 (B : Bd) (x1 : Int32) (x2 : Int32) (s : Int32 × Int32) : Option ((Int32 × Int32) ⊕ (Int32)) := 
  match s with
  | (x3, x4) =>
    if B.strategyCount ≤ x4 then
      some (.inr x3)
    else
      if ((x1 >>> (x4 &&& 31)) &&& 1) = 0 then
        J_35_5_j33 B x1 x2 x3 x4
      else
        (F_28 B x4 x2).bind fun v4 =>
        J_35_5_j33 B x1 x2 (x3 + v4) x4
theorem g_35_5 {d : Nat} (hd : 2 ≤ d) {scr : ASc} {res : ARe} {c n : Nat} {H : AHp} {b : Nat} {B : Bd} {x1 : Int32} {x2 : Int32} (hR : Rg H b (Bd.cells b B)) {s : Int32 × Int32} {o : (Int32 × Int32) ⊕ (Int32)} (hr : G_35_5 B x1 x2 s = some o) (ka : ∀ s, o = .inl s → Ex d am_M35 scr (P_35_5 H b c n B x1 x2 s) res) (kx : ∀ s, o = .inr s → Ex d am_M35 scr (PX_35_5 H b c n B x1 x2 s) res) : Ex d am_M35 scr (P_35_5 H b c n B x1 x2 s) res := by
  obtain ⟨x3, x4⟩ := s
  delta G_35_5 at hr
  show Ex d am_M35 scr (5, [some (.ref b), some (.int x1), some (.int x2), some (.int x3), some (.int x4)], [], H, c, n) res
  refine x_b 1 (S2 := (7, [some (.ref b), some (.int x1), some (.int x2), some (.int x3), some (.int x4)], [.int x4], H, c, n)) rfl ?_
  refine x_ldan rfl rfl rfl (hR.lt (i := 0) (show 0 < 6 by decide)) ?_
  refine x_getf rfl rfl (hR.lt (i := 0) (show 0 < 6 by decide)) (hR.at (i := 0) rfl) rfl ?_
  rcases ite_some hr with ⟨h1, hr⟩ | ⟨h1, hr⟩
  · refine x_ct rfl rfl (decide_eq_true h1) ?_
    refine x_fg (Lq.n (Lq.n (Lq.n (Lq.s (Lq.n Lq.nil))))) ?_
    exact kx x3 (Option.some.inj hr).symm
  · refine x_cf rfl rfl (decide_eq_false h1) ?_
    refine x_b 5 (S2 := (20, [some (.ref b), some (.int x1), some (.int x2), some (.int x3), some (.int x4)], [.int ((x1 >>> (x4 &&& 31)) &&& 1)], H, c, n)) rfl ?_
    rcases ite_some hr with ⟨h2, hr⟩ | ⟨h2, hr⟩
    · refine x_zt rfl rfl (decide_eq_true h2) ?_
      refine x_fg (Lq.s (Lq.s (Lq.s (Lq.s (Lq.s Lq.nil))))) ?_
      exact j_35_5_j33 hd hR hr ka kx
    · refine x_zf rfl rfl (decide_eq_false h2) ?_
      refine x_b 1 (S2 := (24, [some (.ref b), some (.int x1), some (.int x2), some (.int x3), some (.int x4)], [.int x3], H, c, n)) rfl ?_
      refine x_ldan rfl rfl rfl (hR.lt (i := 0) (show 0 < 6 by decide)) ?_
      refine x_b 2 (S2 := (28, [some (.ref b), some (.int x1), some (.int x2), some (.int x3), some (.int x4)], [.int x2, .int x4, .ref b, .int x3], H, c, n)) rfl ?_
      obtain ⟨v4, h3, hr⟩ := bd_some hr
      refine x_c0 (m_28 hR h3) rfl rfl rfl rfl (am_recv_v (hR.lt (i := 0) (show 0 < 6 by decide)) (hR.at (i := 0) rfl) rfl) (by omega) ?_
      refine x_b 2 (S2 := (33, [some (.ref b), some (.int x1), some (.int x2), some (.int (x3 + v4)), some (.int x4)], [], H, c, n)) rfl ?_
      refine x_fg (Lq.s (Lq.s (Lq.s (Lq.s (Lq.s Lq.nil))))) ?_
      exact j_35_5_j33 hd hR hr ka kx
/-- PebbleProofs$Board.weightIn(II)I -/
def F_35 (B : Bd) (x1 : Int32) (x2 : Int32) : Option (Int32) :=
  (lw (G_35_5 B x1 x2) 200000 (0, 0)).bind fun v6 =>
  some v6
theorem f_35 {d : Nat} (hd : 2 ≤ d) {scr : ASc} {res : ARe} {c n : Nat} {H : AHp} {b : Nat} {B : Bd} {x1 : Int32} {x2 : Int32} (hR : Rg H b (Bd.cells b B)) {o : Int32} (hr : F_35 B x1 x2 = some o) (kr : res = (.inl (some (.int o)), H, c, n)) : Ex d am_M35 scr (0, [some (.ref b), some (.int x1), some (.int x2), none, none], [], H, c, n) res := by
  delta F_35 at hr
  refine x_b 4 (S2 := (5, [some (.ref b), some (.int x1), some (.int x2), some (.int 0), some (.int 0)], [], H, c, n)) rfl ?_
  refine x_fg (Lq.s (Lq.s (Lq.s (Lq.s (Lq.s Lq.nil))))) ?_
  obtain ⟨v6, h5, hr⟩ := bd_some hr
  refine x_lw (P := P_35_5 H b c n B x1 x2) (Q := fun x => Ex d am_M35 scr (PX_35_5 H b c n B x1 x2 x) res) (fun s o h1 ka kx => g_35_5 hd hR h1 ka kx) _ (0, 0) _ h5 ?_
  show Ex d am_M35 scr (39, [none, none, none, some (.int v6), none], [], H, c, n) res
  refine x_b 1 (S2 := (40, [none, none, none, some (.int v6), none], [.int v6], H, c, n)) rfl ?_
  cases hr
  rw [kr]
  exact x_ret rfl rfl am_ret_i
theorem m_35 {H : AHp} {b : Nat} {B : Bd} {x1 : Int32} {x2 : Int32} (hR : Rg H b (Bd.cells b B)) {o : Int32} (hr : F_35 B x1 x2 = some o) : Rn 3 35 [.ref b, .int x1, .int x2] H (.inl (some (.int o)), H, 0, 0) :=
  x_meth (M := am_M35) rfl (show 3 ≤ 5 by decide) (f_35 (Nat.le_refl _) hR hr rfl)
/-- PebbleProofs$FailingPiles.mark(I)V -/
def F_39 (B : FP) (x1 : Int32) : Option (FP) :=
  (ix ((x1 >>> (5 &&& 31)) &&& 1023) 1024).bind fun i1 =>
  (some (B.w_marks (upd B.marks i1 ((B.marks i1) ||| (1 <<< ((x1 &&& 31) &&& 31)))))).bind fun B3 =>
  some B3
theorem f_39 {d : Nat} (hd : 1 ≤ d) {scr : ASc} {res : ARe} {c n : Nat} {h : AHp} {b : Nat} (hb : b + 6 ≤ am_SB) (hh : b + 6 ≤ h.length) {B : FP} {x1 : Int32} {o : FP} (hr : F_39 B x1 = some o) (kr : res = (.inl (none), hput h b (FP.cells b o), c, n)) : Ex d am_M39 scr (0, [some (.ref b), some (.int x1)], [], (hput h b (FP.cells b B)), c, n) res := by
  delta F_39 at hr
  refine x_ldan rfl rfl rfl (h_lt (i := 0) hb (by decide)) ?_
  refine x_getf rfl rfl (h_lt (i := 0) hb (by decide)) (hp_at (i := 0) hh rfl rfl) rfl ?_
  refine x_b 6 (S2 := (12, [some (.ref b), some (.int x1)], [.int ((x1 >>> (5 &&& 31)) &&& 1023), .ref (b + 5), .int ((x1 >>> (5 &&& 31)) &&& 1023), .ref (b + 5)], (hput h b (FP.cells b B)), c, n)) rfl ?_
  obtain ⟨i1, h2, hr⟩ := bd_some hr
  refine x_iald rfl rfl (h_lt (i := 5) hb (by decide)) (hp_at (i := 5) hh rfl rfl) h2 ?_
  refine x_b 6 (S2 := (20, [some (.ref b), some (.int x1)], [.int ((B.marks i1) ||| (1 <<< ((x1 &&& 31) &&& 31))), .int ((x1 >>> (5 &&& 31)) &&& 1023), .ref (b + 5)], (hput h b (FP.cells b B)), c, n)) rfl ?_
  obtain ⟨B3, h4, hr⟩ := bd_some hr
  refine x_iast (H := (hput h b (FP.cells b B3))) rfl rfl (h_lt (i := 5) hb (by decide)) (hp_at (i := 5) hh rfl rfl) h2 (hp_set (i := 5) hh rfl (by decide) (FP.s_marks h4)) ?_
  cases hr
  rw [kr]
  exact x_ret rfl rfl rfl
theorem m_39 {h : AHp} {b : Nat} (hb : b + 6 ≤ am_SB) (hh : b + 6 ≤ h.length) {B : FP} {x1 : Int32} {o : FP} (hr : F_39 B x1 = some o) : Rn 2 39 [.ref b, .int x1] (hput h b (FP.cells b B)) (.inl (none), hput h b (FP.cells b o), 0, 0) :=
  x_meth (M := am_M39) rfl (show 2 ≤ 2 by decide) (f_39 (Nat.le_refl _) hb hh hr rfl)
def J_40_0_j27 (B : FP) (t0 : Int32) : Option (Int32) :=
  if t0 = 0 ∨ t0 = 1 then some t0 else none
theorem j_40_0_j27 {d : Nat} (hd : 1 ≤ d) {scr : ASc} {res : ARe} {c n : Nat} {H : AHp} {b : Nat} {B : FP} {t0 : Int32} (hR : Rg H b (FP.cells b B)) {o : Int32} (hr : J_40_0_j27 B t0 = some o) (kr : res = (.inl (some (.int o)), H, c, n)) : Ex d am_M40 scr (27, [none, none], [.int t0], H, c, n) res := by
  delta J_40_0_j27 at hr
  obtain ⟨h4, hr⟩ := itn_some hr
  cases hr
  rw [kr]
  exact x_ret rfl rfl (am_ret_z h4)
/-- PebbleProofs$FailingPiles.isMarked(I)Z -/
def F_40 (B : FP) (x1 : Int32) : Option (Int32) :=
  (ix ((x1 >>> (5 &&& 31)) &&& 1023) 1024).bind fun i1 =>
  if (((B.marks i1) >>> ((x1 &&& 31) &&& 31)) &&& 1) = 0 then
    J_40_0_j27 B 0
  else
    J_40_0_j27 B 1
theorem f_40 {d : Nat} (hd : 1 ≤ d) {scr : ASc} {res : ARe} {c n : Nat} {H : AHp} {b : Nat} {B : FP} {x1 : Int32} (hR : Rg H b (FP.cells b B)) {o : Int32} (hr : F_40 B x1 = some o) (kr : res = (.inl (some (.int o)), H, c, n)) : Ex d am_M40 scr (0, [some (.ref b), some (.int x1)], [], H, c, n) res := by
  delta F_40 at hr
  refine x_ldan rfl rfl rfl (hR.lt (i := 0) (show 0 < 6 by decide)) ?_
  refine x_getf rfl rfl (hR.lt (i := 0) (show 0 < 6 by decide)) (hR.at (i := 0) rfl) rfl ?_
  refine x_b 5 (S2 := (11, [some (.ref b), some (.int x1)], [.int ((x1 >>> (5 &&& 31)) &&& 1023), .ref (b + 5)], H, c, n)) rfl ?_
  obtain ⟨i1, h2, hr⟩ := bd_some hr
  refine x_iald rfl rfl (hR.lt (i := 5) (show 5 < 6 by decide)) (hR.at (i := 5) rfl) h2 ?_
  refine x_b 6 (S2 := (19, [some (.ref b), some (.int x1)], [.int (((B.marks i1) >>> ((x1 &&& 31) &&& 31)) &&& 1)], H, c, n)) rfl ?_
  rcases ite_some hr with ⟨h3, hr⟩ | ⟨h3, hr⟩
  · refine x_zt rfl rfl (decide_eq_true h3) ?_
    refine x_b 1 (S2 := (27, [some (.ref b), some (.int x1)], [.int 0], H, c, n)) rfl ?_
    refine x_fg (Lq.n (Lq.n Lq.nil)) ?_
    exact j_40_0_j27 hd hR hr kr
  · refine x_zf rfl rfl (decide_eq_false h3) ?_
    refine x_b 2 (S2 := (27, [some (.ref b), some (.int x1)], [.int 1], H, c, n)) rfl ?_
    refine x_fg (Lq.n (Lq.n Lq.nil)) ?_
    exact j_40_0_j27 hd hR hr kr
theorem m_40 {H : AHp} {b : Nat} {B : FP} {x1 : Int32} (hR : Rg H b (FP.cells b B)) {o : Int32} (hr : F_40 B x1 = some o) : Rn 2 40 [.ref b, .int x1] H (.inl (some (.int o)), H, 0, 0) :=
  x_meth (M := am_M40) rfl (show 2 ≤ 2 by decide) (f_40 (Nat.le_refl _) hR hr rfl)
/-- PebbleProofs$FailingPiles.pebblesOn(II)I -/
def F_41 (B : FP) (x1 : Int32) (x2 : Int32) : Option (Int32) :=
  (ix x2 6).bind fun i1 =>
  some ((x1 >>> ((B.shifts i1) &&& 31)) &&& (B.limits i1))
theorem f_41 {d : Nat} (hd : 1 ≤ d) {scr : ASc} {res : ARe} {c n : Nat} {H : AHp} {b : Nat} {B : FP} {x1 : Int32} {x2 : Int32} (hR : Rg H b (FP.cells b B)) {o : Int32} (hr : F_41 B x1 x2 = some o) (kr : res = (.inl (some (.int o)), H, c, n)) : Ex d am_M41 scr (0, [some (.ref b), some (.int x1), some (.int x2)], [], H, c, n) res := by
  delta F_41 at hr
  refine x_b 1 (S2 := (1, [some (.ref b), some (.int x1), some (.int x2)], [.int x1], H, c, n)) rfl ?_
  refine x_ldan rfl rfl rfl (hR.lt (i := 0) (show 0 < 6 by decide)) ?_
  refine x_getf rfl rfl (hR.lt (i := 0) (show 0 < 6 by decide)) (hR.at (i := 0) rfl) rfl ?_
  refine x_b 1 (S2 := (6, [some (.ref b), some (.int x1), some (.int x2)], [.int x2, .ref (b + 3), .int x1], H, c, n)) rfl ?_
  obtain ⟨i1, h2, hr⟩ := bd_some hr
  refine x_iald rfl rfl (hR.lt (i := 3) (show 3 < 6 by decide)) (hR.at (i := 3) rfl) h2 ?_
  refine x_b 1 (S2 := (8, [some (.ref b), some (.int x1), some (.int x2)], [.int (x1 >>> ((B.shifts i1) &&& 31))], H, c, n)) rfl ?_
  refine x_ldan rfl rfl rfl (hR.lt (i := 0) (show 0 < 6 by decide)) ?_
  refine x_getf rfl rfl (hR.lt (i := 0) (show 0 < 6 by decide)) (hR.at (i := 0) rfl) rfl ?_
  refine x_b 1 (S2 := (13, [some (.ref b), some (.int x1), some (.int x2)], [.int x2, .ref (b + 2), .int (x1 >>> ((B.shifts i1) &&& 31))], H, c, n)) rfl ?_
  refine x_iald rfl rfl (hR.lt (i := 2) (show 2 < 6 by decide)) (hR.at (i := 2) rfl) h2 ?_
  refine x_b 1 (S2 := (15, [some (.ref b), some (.int x1), some (.int x2)], [.int ((x1 >>> ((B.shifts i1) &&& 31)) &&& (B.limits i1))], H, c, n)) rfl ?_
  cases hr
  rw [kr]
  exact x_ret rfl rfl am_ret_i
theorem m_41 {H : AHp} {b : Nat} {B : FP} {x1 : Int32} {x2 : Int32} (hR : Rg H b (FP.cells b B)) {o : Int32} (hr : F_41 B x1 x2 = some o) : Rn 2 41 [.ref b, .int x1, .int x2] H (.inl (some (.int o)), H, 0, 0) :=
  x_meth (M := am_M41) rfl (show 3 ≤ 3 by decide) (f_41 (Nat.le_refl _) hR hr rfl)
def J_42_0_j25 (B : FP) (t0 : Int32) : Option (Int32) :=
  if t0 = 0 ∨ t0 = 1 then some t0 else none
theorem j_42_0_j25 {d : Nat} (hd : 1 ≤ d) {scr : ASc} {res : ARe} {c n : Nat} {H : AHp} {b : Nat} {B : FP} {t0 : Int32} (hR : Rg H b (FP.cells b B)) {o : Int32} (hr : J_42_0_j25 B t0 = some o) (kr : res = (.inl (some (.int o)), H, c, n)) : Ex d am_M42 scr (25, [none, none, none], [.int t0], H, c, n) res := by
  delta J_42_0_j25 at hr
  obtain ⟨h4, hr⟩ := itn_some hr
  cases hr
  rw [kr]
  exact x_ret rfl rfl (am_ret_z h4)
/-- PebbleProofs$FailingPiles.hasRoom(II)Z -/
def F_42 (B : FP) (x1 : Int32) (x2 : Int32) : Option (Int32) :=
  (ix x2 6).bind fun i1 =>
  if (((x1 ^^^ (-1)) >>> ((B.shifts i1) &&& 31)) &&& (B.limits i1)) = 0 then
    J_42_0_j25 B 0
  else
    J_42_0_j25 B 1
theorem f_42 {d : Nat} (hd : 1 ≤ d) {scr : ASc} {res : ARe} {c n : Nat} {H : AHp} {b : Nat} {B : FP} {x1 : Int32} {x2 : Int32} (hR : Rg H b (FP.cells b B)) {o : Int32} (hr : F_42 B x1 x2 = some o) (kr : res = (.inl (some (.int o)), H, c, n)) : Ex d am_M42 scr (0, [some (.ref b), some (.int x1), some (.int x2)], [], H, c, n) res := by
  delta F_42 at hr
  refine x_b 3 (S2 := (3, [some (.ref b), some (.int x1), some (.int x2)], [.int (x1 ^^^ (-1))], H, c, n)) rfl ?_
  refine x_ldan rfl rfl rfl (hR.lt (i := 0) (show 0 < 6 by decide)) ?_
  refine x_getf rfl rfl (hR.lt (i := 0) (show 0 < 6 by decide)) (hR.at (i := 0) rfl) rfl ?_
  refine x_b 1 (S2 := (8, [some (.ref b), some (.int x1), some (.int x2)], [.int x2, .ref (b + 3), .int (x1 ^^^ (-1))], H, c, n)) rfl ?_
  obtain ⟨i1, h2, hr⟩ := bd_some hr
  refine x_iald rfl rfl (hR.lt (i := 3) (show 3 < 6 by decide)) (hR.at (i := 3) rfl) h2 ?_
  refine x_b 1 (S2 := (10, [some (.ref b), some (.int x1), some (.int x2)], [.int ((x1 ^^^ (-1)) >>> ((B.shifts i1) &&& 31))], H, c, n)) rfl ?_
  refine x_ldan rfl rfl rfl (hR.lt (i := 0) (show 0 < 6 by decide)) ?_
  refine x_getf rfl rfl (hR.lt (i := 0) (show 0 < 6 by decide)) (hR.at (i := 0) rfl) rfl ?_
  refine x_b 1 (S2 := (15, [some (.ref b), some (.int x1), some (.int x2)], [.int x2, .ref (b + 2), .int ((x1 ^^^ (-1)) >>> ((B.shifts i1) &&& 31))], H, c, n)) rfl ?_
  refine x_iald rfl rfl (hR.lt (i := 2) (show 2 < 6 by decide)) (hR.at (i := 2) rfl) h2 ?_
  refine x_b 1 (S2 := (17, [some (.ref b), some (.int x1), some (.int x2)], [.int (((x1 ^^^ (-1)) >>> ((B.shifts i1) &&& 31)) &&& (B.limits i1))], H, c, n)) rfl ?_
  rcases ite_some hr with ⟨h3, hr⟩ | ⟨h3, hr⟩
  · refine x_zt rfl rfl (decide_eq_true h3) ?_
    refine x_b 1 (S2 := (25, [some (.ref b), some (.int x1), some (.int x2)], [.int 0], H, c, n)) rfl ?_
    refine x_fg (Lq.n (Lq.n (Lq.n Lq.nil))) ?_
    exact j_42_0_j25 hd hR hr kr
  · refine x_zf rfl rfl (decide_eq_false h3) ?_
    refine x_b 2 (S2 := (25, [some (.ref b), some (.int x1), some (.int x2)], [.int 1], H, c, n)) rfl ?_
    refine x_fg (Lq.n (Lq.n (Lq.n Lq.nil))) ?_
    exact j_42_0_j25 hd hR hr kr
theorem m_42 {H : AHp} {b : Nat} {B : FP} {x1 : Int32} {x2 : Int32} (hR : Rg H b (FP.cells b B)) {o : Int32} (hr : F_42 B x1 x2 = some o) : Rn 2 42 [.ref b, .int x1, .int x2] H (.inl (some (.int o)), H, 0, 0) :=
  x_meth (M := am_M42) rfl (show 3 ≤ 3 by decide) (f_42 (Nat.le_refl _) hR hr rfl)
abbrev P_47_14 (H : AHp) (b : Nat) (c n : Nat) (B : FP) (x1 : Int32) (x2 : Int32) (x3 : Int32) (s : Int32) : ASt := (14, [some (.ref b), some (.int x1), some (.int x2), some (.int x3), some (.int s)], [], H, c, n)
abbrev PX_47_14 (H : AHp) (b : Nat) (c n : Nat) (B : FP) (x1 : Int32) (x2 : Int32) (x3 : Int32) (s : Unit) : ASt := (73, [none, none, none, none, none], [], H, c, n)
def J_47_14_j67 (B : FP) (x1 : Int32) (x2 : Int32) (x3 : Int32) (x4 : Int32) : Option ((Int32) ⊕ (Unit) ⊕ (Int32)) :=
  some (.inl (x4 + 1))
theorem j_47_14_j67 {d : Nat} (hd : 2 ≤ d) {scr : ASc} {res : ARe} {c n : Nat} {H : AHp} {b : Nat} {B : FP} {x1 : Int32} {x2 : Int32} {x3 : Int32} {x4 : Int32} (hR : Rg H b (FP.cells b B)) {o : (Int32) ⊕ (Unit) ⊕ (Int32)} (hr : J_47_14_j67 B x1 x2 x3 x4 = some o) (ka : ∀ s, o = .inl s → Ex d am_M47 scr (P_47_14 H b c n B x1 x2 x3 s) res) (kx : ∀ s, o = .inr (.inl s) → Ex d am_M47 scr (PX_47_14 H b c n B x1 x2 x3 s) res) (kr : ∀ r, o = .inr (.inr r) → res = (.inl (some (.int r)), H, c, n)) : Ex d am_M47 scr (67, [some (.ref b), some (.int x1), some (.int x2), some (.int x3), some (.int x4)], [], H, c, n) res := by
  delta J_47_14_j67 at hr
  refine x_b 2 (S2 := (14, [some (.ref b), some (.int x1), some (.int x2), some (.int x3), some (.int (x4 + 1))], [], H, c, n)) rfl ?_
  refine x_fg (Lq.s (Lq.s (Lq.s (Lq.s (Lq.s Lq.nil))))) ?_
  exact ka (x4 + 1) (Option.some.inj hr).symm
def J_47_14_j65 (B : FP) (x1 : Int32) (x2 : Int32) (x3 : Int32) : Option ((Int32) ⊕ (Unit) ⊕ (Int32)) :=
  some (.inr (.inr 0))
theorem j_47_14_j65 {d : Nat} (hd : 2 ≤ d) {scr : ASc} {res : ARe} {c n : Nat} {H : AHp} {b : Nat} {B : FP} {x1 : Int32} {x2 : Int32} {x3 : Int32} (hR : Rg H b (FP.cells b B)) {o : (Int32) ⊕ (Unit) ⊕ (Int32)} (hr : J_47_14_j65 B x1 x2 x3 = some o) (ka : ∀ s, o = .inl s → Ex d am_M47 scr (P_47_14 H b c n B x1 x2 x3 s) res) (kx : ∀ s, o = .inr (.inl s) → Ex d am_M47 scr (PX_47_14 H b c n B x1 x2 x3 s) res) (kr : ∀ r, o = .inr (.inr r) → res = (.inl (some (.int r)), H, c, n)) : Ex d am_M47 scr (65, [none, none, none, none, none], [], H, c, n) res := by
  delta J_47_14_j65 at hr
  refine x_b 1 (S2 := (66, [none, none, none, none, none], [.int 0], H, c, n)) rfl ?_
  rw [kr _ (Option.some.inj hr).symm]
  exact x_ret rfl rfl (am_ret_z (by decide))
def G_47_14 (B : FP) (x1 : Int32) (x2 : Int32) (x3 : Int32) (s : Int32) : Option ((Int32) ⊕ (Unit) ⊕ (Int32)) := 
  match s with
  | x4 =>
    if B.vertices ≤ x4 then
      some (.inr (.inl ()))
    else
      (ix x1 6).bind fun i4 =>
      if (((B.near i4) >>> (x4 &&& 31)) &&& 1) = 0 then
        J_47_14_j67 B x1 x2 x3 x4
      else
        (F_42 B x2 x4).bind fun v8 =>
        if v8 = 0 then
          J_47_14_j65 B x1 x2 x3
        else
          (ix x4 6).bind fun i11 =>
          (F_40 B (x3 + (1 <<< ((B.shifts i11) &&& 31)))).bind fun v14 =>
          if ¬ v14 = 0 then
            J_47_14_j67 B x1 x2 x3 x4
          else
            J_47_14_j65 B x1 x2 x3
theorem g_47_14 {d : Nat} (hd : 2 ≤ d) {scr : ASc} {res : ARe} {c n : Nat} {H : AHp} {b : Nat} {B : FP} {x1 : Int32} {x2 : Int32} {x3 : Int32} (hR : Rg H b (FP.cells b B)) {s : Int32} {o : (Int32) ⊕ (Unit) ⊕ (Int32)} (hr : G_47_14 B x1 x2 x3 s = some o) (ka : ∀ s, o = .inl s → Ex d am_M47 scr (P_47_14 H b c n B x1 x2 x3 s) res) (kx : ∀ s, o = .inr (.inl s) → Ex d am_M47 scr (PX_47_14 H b c n B x1 x2 x3 s) res) (kr : ∀ r, o = .inr (.inr r) → res = (.inl (some (.int r)), H, c, n)) : Ex d am_M47 scr (P_47_14 H b c n B x1 x2 x3 s) res := by
  delta G_47_14 at hr
  show Ex d am_M47 scr (14, [some (.ref b), some (.int x1), some (.int x2), some (.int x3), some (.int s)], [], H, c, n) res
  refine x_b 1 (S2 := (16, [some (.ref b), some (.int x1), some (.int x2), some (.int x3), some (.int s)], [.int s], H, c, n)) rfl ?_
  refine x_ldan rfl rfl rfl (hR.lt (i := 0) (show 0 < 6 by decide)) ?_
  refine x_getf rfl rfl (hR.lt (i := 0) (show 0 < 6 by decide)) (hR.at (i := 0) rfl) rfl ?_
  rcases ite_some hr with ⟨h3, hr⟩ | ⟨h3, hr⟩
  · refine x_ct rfl rfl (decide_eq_true h3) ?_
    refine x_fg (Lq.n (Lq.n (Lq.n (Lq.n (Lq.n Lq.nil))))) ?_
    exact kx () (Option.some.inj hr).symm
  · refine x_cf rfl rfl (decide_eq_false h3) ?_
    refine x_ldan rfl rfl rfl (hR.lt (i := 0) (show 0 < 6 by decide)) ?_
    refine x_getf rfl rfl (hR.lt (i := 0) (show 0 < 6 by decide)) (hR.at (i := 0) rfl) rfl ?_
    refine x_b 1 (S2 := (28, [some (.ref b), some (.int x1), some (.int x2), some (.int x3), some (.int s)], [.int x1, .ref (b + 4)], H, c, n)) rfl ?_
    obtain ⟨i4, h5, hr⟩ := bd_some hr
    refine x_iald rfl rfl (hR.lt (i := 4) (show 4 < 6 by decide)) (hR.at (i := 4) rfl) h5 ?_
    refine x_b 4 (S2 := (34, [some (.ref b), some (.int x1), some (.int x2), some (.int x3), some (.int s)], [.int (((B.near i4) >>> (s &&& 31)) &&& 1)], H, c, n)) rfl ?_
    rcases ite_some hr with ⟨h6, hr⟩ | ⟨h6, hr⟩
    · refine x_zt rfl rfl (decide_eq_true h6) ?_
      refine x_fg (Lq.s (Lq.s (Lq.s (Lq.s (Lq.s Lq.nil))))) ?_
      exact j_47_14_j67 hd hR hr ka kx kr
    · refine x_zf rfl rfl (decide_eq_false h6) ?_
      refine x_ldan rfl rfl rfl (hR.lt (i := 0) (show 0 < 6 by decide)) ?_
      refine x_b 2 (S2 := (41, [some (.ref b), some (.int x1), some (.int x2), some (.int x3), some (.int s)], [.int s, .int x2, .ref b], H, c, n)) rfl ?_
      obtain ⟨v8, h7, hr⟩ := bd_some hr
      refine x_c0 (m_42 hR h7) rfl rfl rfl rfl (am_recv_v (hR.lt (i := 0) (show 0 < 6 by decide)) (hR.at (i := 0) rfl) rfl) (by omega) ?_
      rcases ite_some hr with ⟨h9, hr⟩ | ⟨h9, hr⟩
      · refine x_zt rfl rfl (decide_eq_true h9) ?_
        refine x_fg (Lq.n (Lq.n (Lq.n (Lq.n (Lq.n Lq.nil))))) ?_
        exact j_47_14_j65 hd hR hr ka kx kr
      · refine x_zf rfl rfl (decide_eq_false h9) ?_
        refine x_ldan rfl rfl rfl (hR.lt (i := 0) (show 0 < 6 by decide)) ?_
        refine x_b 2 (S2 := (50, [some (.ref b), some (.int x1), some (.int x2), some (.int x3), some (.int s)], [.int 1, .int x3, .ref b], H, c, n)) rfl ?_
        refine x_ldan rfl rfl rfl (hR.lt (i := 0) (show 0 < 6 by decide)) ?_
        refine x_getf rfl rfl (hR.lt (i := 0) (show 0 < 6 by decide)) (hR.at (i := 0) rfl) rfl ?_
        refine x_b 1 (S2 := (56, [some (.ref b), some (.int x1), some (.int x2), some (.int x3), some (.int s)], [.int s, .ref (b + 3), .int 1, .int x3, .ref b], H, c, n)) rfl ?_
        obtain ⟨i11, h12, hr⟩ := bd_some hr
        refine x_iald rfl rfl (hR.lt (i := 3) (show 3 < 6 by decide)) (hR.at (i := 3) rfl) h12 ?_
        refine x_b 2 (S2 := (59, [some (.ref b), some (.int x1), some (.int x2), some (.int x3), some (.int s)], [.int (x3 + (1 <<< ((B.shifts i11) &&& 31))), .ref b], H, c, n)) rfl ?_
        obtain ⟨v14, h13, hr⟩ := bd_some hr
        refine x_c0 (m_40 hR h13) rfl rfl rfl rfl (am_recv_v (hR.lt (i := 0) (show 0 < 6 by decide)) (hR.at (i := 0) rfl) rfl) (by omega) ?_
        rcases ite_some hr with ⟨h15, hr⟩ | ⟨h15, hr⟩
        · refine x_zt rfl rfl (decide_eq_true h15) ?_
          refine x_fg (Lq.s (Lq.s (Lq.s (Lq.s (Lq.s Lq.nil))))) ?_
          exact j_47_14_j67 hd hR hr ka kx kr
        · refine x_zf rfl rfl (decide_eq_false h15) ?_
          refine x_fg (Lq.n (Lq.n (Lq.n (Lq.n (Lq.n Lq.nil))))) ?_
          exact j_47_14_j65 hd hR hr ka kx kr
/-- PebbleProofs$FailingPiles.failsAfterMoveFrom(II)Z -/
def F_47 (B : FP) (x1 : Int32) (x2 : Int32) : Option (Int32) :=
  (ix x1 6).bind fun i1 =>
  (lw (G_47_14 B x1 x2 (x2 - (2 <<< ((B.shifts i1) &&& 31)))) 200000 0).bind fun r =>
    match r with
    | .inr r19 => some r19
    | .inl _ =>
      some 1
theorem f_47 {d : Nat} (hd : 2 ≤ d) {scr : ASc} {res : ARe} {c n : Nat} {H : AHp} {b : Nat} {B : FP} {x1 : Int32} {x2 : Int32} (hR : Rg H b (FP.cells b B)) {o : Int32} (hr : F_47 B x1 x2 = some o) (kr : res = (.inl (some (.int o)), H, c, n)) : Ex d am_M47 scr (0, [some (.ref b), some (.int x1), some (.int x2), none, none], [], H, c, n) res := by
  delta F_47 at hr
  refine x_b 2 (S2 := (2, [some (.ref b), some (.int x1), some (.int x2), none, none], [.int 2, .int x2], H, c, n)) rfl ?_
  refine x_ldan rfl rfl rfl (hR.lt (i := 0) (show 0 < 6 by decide)) ?_
  refine x_getf rfl rfl (hR.lt (i := 0) (show 0 < 6 by decide)) (hR.at (i := 0) rfl) rfl ?_
  refine x_b 1 (S2 := (7, [some (.ref b), some (.int x1), some (.int x2), none, none], [.int x1, .ref (b + 3), .int 2, .int x2], H, c, n)) rfl ?_
  obtain ⟨i1, h2, hr⟩ := bd_some hr
  refine x_iald rfl rfl (hR.lt (i := 3) (show 3 < 6 by decide)) (hR.at (i := 3) rfl) h2 ?_
  refine x_b 5 (S2 := (14, [some (.ref b), some (.int x1), some (.int x2), some (.int (x2 - (2 <<< ((B.shifts i1) &&& 31)))), some (.int 0)], [], H, c, n)) rfl ?_
  refine x_fg (Lq.s (Lq.s (Lq.s (Lq.s (Lq.s Lq.nil))))) ?_
  obtain ⟨o17, h16, hr⟩ := bd_some hr
  refine x_lw (P := P_47_14 H b c n B x1 x2 (x2 - (2 <<< ((B.shifts i1) &&& 31)))) (Q := fun x => match x with | .inl e => Ex d am_M47 scr (PX_47_14 H b c n B x1 x2 (x2 - (2 <<< ((B.shifts i1) &&& 31))) e) res | .inr r => res = (.inl (some (.int r)), H, c, n)) (fun s o h1 ka kx => g_47_14 hd hR h1 ka (fun e he => kx (.inl e) he) (fun r he => kx (.inr r) he)) _ 0 _ h16 ?_
  rcases o17 with e | r19
  · show Ex d am_M47 scr (73, [none, none, none, none, none], [], H, c, n) res
    refine x_b 1 (S2 := (74, [none, none, none, none, none], [.int 1], H, c, n)) rfl ?_
    cases hr
    rw [kr]
    exact x_ret rfl rfl (am_ret_z (by decide))
  · cases hr; exact kr
theorem m_47 {H : AHp} {b : Nat} {B : FP} {x1 : Int32} {x2 : Int32} (hR : Rg H b (FP.cells b B)) {o : Int32} (hr : F_47 B x1 x2 = some o) : Rn 3 47 [.ref b, .int x1, .int x2] H (.inl (some (.int o)), H, 0, 0) :=
  x_meth (M := am_M47) rfl (show 3 ≤ 5 by decide) (f_47 (Nat.le_refl _) hR hr rfl)
abbrev P_46_2 (H : AHp) (b : Nat) (c n : Nat) (B : FP) (x1 : Int32) (s : Int32) : ASt := (2, [some (.ref b), some (.int x1), some (.int s)], [], H, c, n)
abbrev PX_46_2 (H : AHp) (b : Nat) (c n : Nat) (B : FP) (x1 : Int32) (s : Unit) : ASt := (37, [none, none, none], [], H, c, n)
def J_46_2_j31 (B : FP) (x1 : Int32) (x2 : Int32) : Option ((Int32) ⊕ (Unit) ⊕ (Int32)) :=
  some (.inl (x2 + 1))
theorem j_46_2_j31 {d : Nat} (hd : 3 ≤ d) {scr : ASc} {res : ARe} {c n : Nat} {H : AHp} {b : Nat} {B : FP} {x1 : Int32} {x2 : Int32} (hR : Rg H b (FP.cells b B)) {o : (Int32) ⊕ (Unit) ⊕ (Int32)} (hr : J_46_2_j31 B x1 x2 = some o) (ka : ∀ s, o = .inl s → Ex d am_M46 scr (P_46_2 H b c n B x1 s) res) (kx : ∀ s, o = .inr (.inl s) → Ex d am_M46 scr (PX_46_2 H b c n B x1 s) res) (kr : ∀ r, o = .inr (.inr r) → res = (.inl (some (.int r)), H, c, n)) : Ex d am_M46 scr (31, [some (.ref b), some (.int x1), some (.int x2)], [], H, c, n) res := by
  delta J_46_2_j31 at hr
  refine x_b 2 (S2 := (2, [some (.ref b), some (.int x1), some (.int (x2 + 1))], [], H, c, n)) rfl ?_
  refine x_fg (Lq.s (Lq.s (Lq.s Lq.nil))) ?_
  exact ka (x2 + 1) (Option.some.inj hr).symm
def G_46_2 (B : FP) (x1 : Int32) (s : Int32) : Option ((Int32) ⊕ (Unit) ⊕ (Int32)) := 
  match s with
  | x2 =>
    if B.vertices ≤ x2 then
      some (.inr (.inl ()))
    else
      (F_41 B x1 x2).bind fun v3 =>
      if v3 < 2 then
        J_46_2_j31 B x1 x2
      else
        (F_47 B x2 x1).bind fun v6 =>
        if ¬ v6 = 0 then
          J_46_2_j31 B x1 x2
        else
          some (.inr (.inr 0))
theorem g_46_2 {d : Nat} (hd : 3 ≤ d) {scr : ASc} {res : ARe} {c n : Nat} {H : AHp} {b : Nat} {B : FP} {x1 : Int32} (hR : Rg H b (FP.cells b B)) {s : Int32} {o : (Int32) ⊕ (Unit) ⊕ (Int32)} (hr : G_46_2 B x1 s = some o) (ka : ∀ s, o = .inl s → Ex d am_M46 scr (P_46_2 H b c n B x1 s) res) (kx : ∀ s, o = .inr (.inl s) → Ex d am_M46 scr (PX_46_2 H b c n B x1 s) res) (kr : ∀ r, o = .inr (.inr r) → res = (.inl (some (.int r)), H, c, n)) : Ex d am_M46 scr (P_46_2 H b c n B x1 s) res := by
  delta G_46_2 at hr
  show Ex d am_M46 scr (2, [some (.ref b), some (.int x1), some (.int s)], [], H, c, n) res
  refine x_b 1 (S2 := (3, [some (.ref b), some (.int x1), some (.int s)], [.int s], H, c, n)) rfl ?_
  refine x_ldan rfl rfl rfl (hR.lt (i := 0) (show 0 < 6 by decide)) ?_
  refine x_getf rfl rfl (hR.lt (i := 0) (show 0 < 6 by decide)) (hR.at (i := 0) rfl) rfl ?_
  rcases ite_some hr with ⟨h1, hr⟩ | ⟨h1, hr⟩
  · refine x_ct rfl rfl (decide_eq_true h1) ?_
    refine x_fg (Lq.n (Lq.n (Lq.n Lq.nil))) ?_
    exact kx () (Option.some.inj hr).symm
  · refine x_cf rfl rfl (decide_eq_false h1) ?_
    refine x_ldan rfl rfl rfl (hR.lt (i := 0) (show 0 < 6 by decide)) ?_
    refine x_b 2 (S2 := (13, [some (.ref b), some (.int x1), some (.int s)], [.int s, .int x1, .ref b], H, c, n)) rfl ?_
    obtain ⟨v3, h2, hr⟩ := bd_some hr
    refine x_c0 (m_41 hR h2) rfl rfl rfl rfl (am_recv_v (hR.lt (i := 0) (show 0 < 6 by decide)) (hR.at (i := 0) rfl) rfl) (by omega) ?_
    refine x_b 1 (S2 := (17, [some (.ref b), some (.int x1), some (.int s)], [.int 2, .int v3], H, c, n)) rfl ?_
    rcases ite_some hr with ⟨h4, hr⟩ | ⟨h4, hr⟩
    · refine x_ct rfl rfl (decide_eq_true h4) ?_
      refine x_fg (Lq.s (Lq.s (Lq.s Lq.nil))) ?_
      exact j_46_2_j31 hd hR hr ka kx kr
    · refine x_cf rfl rfl (decide_eq_false h4) ?_
      refine x_ldan rfl rfl rfl (hR.lt (i := 0) (show 0 < 6 by decide)) ?_
      refine x_b 2 (S2 := (23, [some (.ref b), some (.int x1), some (.int s)], [.int x1, .int s, .ref b], H, c, n)) rfl ?_
      obtain ⟨v6, h5, hr⟩ := bd_some hr
      refine x_c0 (m_47 hR h5) rfl rfl rfl rfl (am_recv_v (hR.lt (i := 0) (show 0 < 6 by decide)) (hR.at (i := 0) rfl) rfl) (by omega) ?_
      rcases ite_some hr with ⟨h7, hr⟩ | ⟨h7, hr⟩
      · refine x_zt rfl rfl (decide_eq_true h7) ?_
        refine x_fg (Lq.s (Lq.s (Lq.s Lq.nil))) ?_
        exact j_46_2_j31 hd hR hr ka kx kr
      · refine x_zf rfl rfl (decide_eq_false h7) ?_
        refine x_b 1 (S2 := (30, [some (.ref b), some (.int x1), some (.int s)], [.int 0], H, c, n)) rfl ?_
        rw [kr _ (Option.some.inj hr).symm]
        exact x_ret rfl rfl (am_ret_z (by decide))
/-- PebbleProofs$FailingPiles.fails(I)Z -/
def F_46 (B : FP) (x1 : Int32) : Option (Int32) :=
  (lw (G_46_2 B x1) 200000 0).bind fun r =>
    match r with
    | .inr r12 => some r12
    | .inl _ =>
      some 1
theorem f_46 {d : Nat} (hd : 3 ≤ d) {scr : ASc} {res : ARe} {c n : Nat} {H : AHp} {b : Nat} {B : FP} {x1 : Int32} (hR : Rg H b (FP.cells b B)) {o : Int32} (hr : F_46 B x1 = some o) (kr : res = (.inl (some (.int o)), H, c, n)) : Ex d am_M46 scr (0, [some (.ref b), some (.int x1), none], [], H, c, n) res := by
  delta F_46 at hr
  refine x_b 2 (S2 := (2, [some (.ref b), some (.int x1), some (.int 0)], [], H, c, n)) rfl ?_
  refine x_fg (Lq.s (Lq.s (Lq.s Lq.nil))) ?_
  obtain ⟨o10, h9, hr⟩ := bd_some hr
  refine x_lw (P := P_46_2 H b c n B x1) (Q := fun x => match x with | .inl e => Ex d am_M46 scr (PX_46_2 H b c n B x1 e) res | .inr r => res = (.inl (some (.int r)), H, c, n)) (fun s o h1 ka kx => g_46_2 hd hR h1 ka (fun e he => kx (.inl e) he) (fun r he => kx (.inr r) he)) _ 0 _ h9 ?_
  rcases o10 with e | r12
  · show Ex d am_M46 scr (37, [none, none, none], [], H, c, n) res
    refine x_b 1 (S2 := (38, [none, none, none], [.int 1], H, c, n)) rfl ?_
    cases hr
    rw [kr]
    exact x_ret rfl rfl (am_ret_z (by decide))
  · cases hr; exact kr
theorem m_46 {H : AHp} {b : Nat} {B : FP} {x1 : Int32} (hR : Rg H b (FP.cells b B)) {o : Int32} (hr : F_46 B x1 = some o) : Rn 4 46 [.ref b, .int x1] H (.inl (some (.int o)), H, 0, 0) :=
  x_meth (M := am_M46) rfl (show 2 ≤ 3 by decide) (f_46 (Nat.le_refl _) hR hr rfl)
/-- PebbleProofs$Outlook.pebblesOn(II)I -/
def F_55 (x0 : Int32) (x1 : Int32) : Option (Int32) :=
  some ((x0 >>> ((4 * x1) &&& 31)) &&& 15)
theorem f_55 {d : Nat} (hd : 1 ≤ d) {scr : ASc} {res : ARe} {c n : Nat} {H : AHp} {x0 : Int32} {x1 : Int32} {o : Int32} (hr : F_55 x0 x1 = some o) (kr : res = (.inl (some (.int o)), H, c, n)) : Ex d am_M55 scr (0, [some (.int x0), some (.int x1)], [], H, c, n) res := by
  delta F_55 at hr
  refine x_b 7 (S2 := (8, [some (.int x0), some (.int x1)], [.int ((x0 >>> ((4 * x1) &&& 31)) &&& 15)], H, c, n)) rfl ?_
  cases hr
  rw [kr]
  exact x_ret rfl rfl am_ret_i
theorem m_55 {H : AHp} {x0 : Int32} {x1 : Int32} {o : Int32} (hr : F_55 x0 x1 = some o) : Rn 2 55 [.int x0, .int x1] H (.inl (some (.int o)), H, 0, 0) :=
  x_meth (M := am_M55) rfl (show 2 ≤ 2 by decide) (f_55 (Nat.le_refl _) hr rfl)
abbrev P_56_4 (H : AHp) (c n : Nat) (x0 : Int32) (s : Int32 × Int32) : ASt := (4, [some (.int x0), some (.int s.1), some (.int s.2)], [], H, c, n)
abbrev PX_56_4 (H : AHp) (c n : Nat) (x0 : Int32) (s : Int32) : ASt := (24, [none, some (.int s), none], [], H, c, n)
def G_56_4 (x0 : Int32) (s : Int32 × Int32) : Option ((Int32 × Int32) ⊕ (Int32)) := 
  match s with
  | (x1, x2) =>
    if 6 ≤ x2 then
      some (.inr x1)
    else
      (F_55 x0 x2).bind fun v3 =>
      some (.inl ((x1 + v3), (x2 + 1)))
theorem g_56_4 {d : Nat} (hd : 2 ≤ d) {scr : ASc} {res : ARe} {c n : Nat} {H : AHp} {x0 : Int32} {s : Int32 × Int32} {o : (Int32 × Int32) ⊕ (Int32)} (hr : G_56_4 x0 s = some o) (ka : ∀ s, o = .inl s → Ex d am_M56 scr (P_56_4 H c n x0 s) res) (kx : ∀ s, o = .inr s → Ex d am_M56 scr (PX_56_4 H c n x0 s) res) : Ex d am_M56 scr (P_56_4 H c n x0 s) res := by
  obtain ⟨x1, x2⟩ := s
  delta G_56_4 at hr
  show Ex d am_M56 scr (4, [some (.int x0), some (.int x1), some (.int x2)], [], H, c, n) res
  refine x_b 2 (S2 := (7, [some (.int x0), some (.int x1), some (.int x2)], [.int 6, .int x2], H, c, n)) rfl ?_
  rcases ite_some hr with ⟨h1, hr⟩ | ⟨h1, hr⟩
  · refine x_ct rfl rfl (decide_eq_true h1) ?_
    refine x_fg (Lq.n (Lq.s (Lq.n Lq.nil))) ?_
    exact kx x1 (Option.some.inj hr).symm
  · refine x_cf rfl rfl (decide_eq_false h1) ?_
    refine x_b 3 (S2 := (13, [some (.int x0), some (.int x1), some (.int x2)], [.int x2, .int x0, .int x1], H, c, n)) rfl ?_
    obtain ⟨v3, h2, hr⟩ := bd_some hr
    refine x_c0 (m_55 h2) rfl rfl rfl rfl rfl (by omega) ?_
    refine x_b 4 (S2 := (4, [some (.int x0), some (.int (x1 + v3)), some (.int (x2 + 1))], [], H, c, n)) rfl ?_
    refine x_fg (Lq.s (Lq.s (Lq.s Lq.nil))) ?_
    exact ka ((x1 + v3), (x2 + 1)) (Option.some.inj hr).symm
/-- PebbleProofs$Outlook.pebblesIn(I)I -/
def F_56 (x0 : Int32) : Option (Int32) :=
  (lw (G_56_4 x0) 200000 (0, 0)).bind fun v5 =>
  some v5
theorem f_56 {d : Nat} (hd : 2 ≤ d) {scr : ASc} {res : ARe} {c n : Nat} {H : AHp} {x0 : Int32} {o : Int32} (hr : F_56 x0 = some o) (kr : res = (.inl (some (.int o)), H, c, n)) : Ex d am_M56 scr (0, [some (.int x0), none, none], [], H, c, n) res := by
  delta F_56 at hr
  refine x_b 4 (S2 := (4, [some (.int x0), some (.int 0), some (.int 0)], [], H, c, n)) rfl ?_
  refine x_fg (Lq.s (Lq.s (Lq.s Lq.nil))) ?_
  obtain ⟨v5, h4, hr⟩ := bd_some hr
  refine x_lw (P := P_56_4 H c n x0) (Q := fun x => Ex d am_M56 scr (PX_56_4 H c n x0 x) res) (fun s o h1 ka kx => g_56_4 hd h1 ka kx) _ (0, 0) _ h4 ?_
  show Ex d am_M56 scr (24, [none, some (.int v5), none], [], H, c, n) res
  refine x_b 1 (S2 := (25, [none, some (.int v5), none], [.int v5], H, c, n)) rfl ?_
  cases hr
  rw [kr]
  exact x_ret rfl rfl am_ret_i
theorem m_56 {H : AHp} {x0 : Int32} {o : Int32} (hr : F_56 x0 = some o) : Rn 3 56 [.int x0] H (.inl (some (.int o)), H, 0, 0) :=
  x_meth (M := am_M56) rfl (show 1 ≤ 3 by decide) (f_56 (Nat.le_refl _) hr rfl)
/-- PebbleProofs$Outlook.clear()V -/
def F_58 (B : Ol) : Option (Ol) :=
  (F_261 16384 B.slots 0).bind fun B2 =>
  (some (B.w_slots B2)).bind fun B3 =>
  (F_261 6 B3.fewestMoves (-1)).bind fun B6 =>
  (some (B3.w_fewestMoves B6)).bind fun B7 =>
  (some (B7.w_fewestEmpty B7.vertices)).bind fun B9 =>
  some B9
theorem f_58 {d : Nat} (hd : 2 ≤ d) {scr : ASc} {res : ARe} {c n : Nat} {h : AHp} {b : Nat} (hb : b + 4 ≤ am_SB) (hh : b + 4 ≤ h.length) {B : Ol} {o : Ol} (hr : F_58 B = some o) (kr : res = (.inl (none), hput h b (Ol.cells b o), c, n)) : Ex d am_M58 scr (0, [some (.ref b)], [], (hput h b (Ol.cells b B)), c, n) res := by
  delta F_58 at hr
  refine x_ldan rfl rfl rfl (h_lt (i := 0) hb (by decide)) ?_
  refine x_getf rfl rfl (h_lt (i := 0) hb (by decide)) (hp_at (i := 0) hh rfl rfl) rfl ?_
  refine x_b 1 (S2 := (5, [some (.ref b)], [.int 0, .ref (b + 3)], (hput h b (Ol.cells b B)), c, n)) rfl ?_
  obtain ⟨B2, h1, hr⟩ := bd_some hr
  obtain ⟨B3, h4, hr⟩ := bd_some hr
  refine x_c0 (ar_call (H' := (hput h b (Ol.cells b B3))) (fun hb hh => m_261 hb hh h1) (h_lt (i := 3) hb (by decide)) (hp_at (i := 3) hh rfl rfl) (hp_set (i := 3) hh rfl (by decide) (Ol.s_slots h4))) rfl rfl rfl rfl rfl (by omega) ?_
  refine x_ldan rfl rfl rfl (h_lt (i := 0) hb (by decide)) ?_
  refine x_getf rfl rfl (h_lt (i := 0) hb (by decide)) (hp_at (i := 0) hh rfl rfl) rfl ?_
  refine x_b 1 (S2 := (13, [some (.ref b)], [.int (-1), .ref (b + 1)], (hput h b (Ol.cells b B3)), c, n)) rfl ?_
  obtain ⟨B6, h5, hr⟩ := bd_some hr
  obtain ⟨B7, h8, hr⟩ := bd_some hr
  refine x_c0 (ar_call (H' := (hput h b (Ol.cells b B7))) (fun hb hh => m_261 hb hh h5) (h_lt (i := 1) hb (by decide)) (hp_at (i := 1) hh rfl rfl) (hp_set (i := 1) hh rfl (by decide) (Ol.s_fewestMoves h8))) rfl rfl rfl rfl rfl (by omega) ?_
  refine x_ldan rfl rfl rfl (h_lt (i := 0) hb (by decide)) ?_
  refine x_ldan rfl rfl rfl (h_lt (i := 0) hb (by decide)) ?_
  refine x_getf rfl rfl (h_lt (i := 0) hb (by decide)) (hp_at (i := 0) hh rfl rfl) rfl ?_
  obtain ⟨B9, h10, hr⟩ := bd_some hr
  refine x_putf (H := (hput h b (Ol.cells b B9))) rfl rfl (h_lt (i := 0) hb (by decide)) (hp_at (i := 0) hh rfl rfl) ⟨(show 5 < 9 by decide), rfl, rfl, nofun⟩ (hp_set (i := 0) hh rfl (by decide) (Ol.s_fewestEmpty rfl h10)) ?_
  cases hr
  rw [kr]
  exact x_ret rfl rfl rfl
theorem m_58 {h : AHp} {b : Nat} (hb : b + 4 ≤ am_SB) (hh : b + 4 ≤ h.length) {B : Ol} {o : Ol} (hr : F_58 B = some o) : Rn 3 58 [.ref b] (hput h b (Ol.cells b B)) (.inl (none), hput h b (Ol.cells b o), 0, 0) :=
  x_meth (M := am_M58) rfl (show 1 ≤ 1 by decide) (f_58 (Nat.le_refl _) hb hh hr rfl)
abbrev P_59_5 (h : AHp) (b : Nat) (c n : Nat) (x1 : Int32) (x2 : Int32) (s : Int32 × Int32 × (Ol)) : ASt := (5, [some (.ref b), some (.int x1), some (.int x2), some (.int s.1), some (.int s.2.1)], [], (hput h b (Ol.cells b s.2.2)), c, n)
abbrev PX_59_5 (h : AHp) (b : Nat) (c n : Nat) (x1 : Int32) (x2 : Int32) (s : Int32 × (Ol)) : ASt := (54, [some (.ref b), none, none, some (.int s.1), none], [], (hput h b (Ol.cells b s.2)), c, n)
def J_59_5_j48 (B : Ol) (x1 : Int32) (x2 : Int32) (x3 : Int32) (x4 : Int32) : Option ((Int32 × Int32 × (Ol)) ⊕ (Int32 × (Ol))) :=
  some (.inl (x3, (x4 + 1), B))
theorem j_59_5_j48 {d : Nat} (hd : 2 ≤ d) {scr : ASc} {res : ARe} {c n : Nat} {h : AHp} {b : Nat} (hb : b + 4 ≤ am_SB) (hh : b + 4 ≤ h.length) {B : Ol} {x1 : Int32} {x2 : Int32} {x3 : Int32} {x4 : Int32} {o : (Int32 × Int32 × (Ol)) ⊕ (Int32 × (Ol))} (hr : J_59_5_j48 B x1 x2 x3 x4 = some o) (ka : ∀ s, o = .inl s → Ex d am_M59 scr (P_59_5 h b c n x1 x2 s) res) (kx : ∀ s, o = .inr s → Ex d am_M59 scr (PX_59_5 h b c n x1 x2 s) res) : Ex d am_M59 scr (48, [some (.ref b), some (.int x1), some (.int x2), some (.int x3), some (.int x4)], [], (hput h b (Ol.cells b B)), c, n) res := by
  delta J_59_5_j48 at hr
  refine x_b 2 (S2 := (5, [some (.ref b), some (.int x1), some (.int x2), some (.int x3), some (.int (x4 + 1))], [], (hput h b (Ol.cells b B)), c, n)) rfl ?_
  refine x_fg (Lq.s (Lq.s (Lq.s (Lq.s (Lq.s Lq.nil))))) ?_
  exact ka (x3, (x4 + 1), B) (Option.some.inj hr).symm
def G_59_5 (x1 : Int32) (x2 : Int32) (s : Int32 × Int32 × (Ol)) : Option ((Int32 × Int32 × (Ol)) ⊕ (Int32 × (Ol))) := 
  match s with
  | (x3, x4, B) =>
    if B.vertices ≤ x4 then
      some (.inr (x3, B))
    else
      (F_55 x1 x4).bind fun v3 =>
      if ¬ v3 = 0 then
        (ix x4 6).bind fun i5 =>
        if ¬ (B.fewestMoves i5) = (-1) then
          J_59_5_j48 B x1 x2 x3 x4
        else
          (some (B.w_fewestMoves (upd B.fewestMoves i5 x2))).bind fun B8 =>
          J_59_5_j48 B8 x1 x2 x3 x4
      else
        J_59_5_j48 B x1 x2 (x3 + 1) x4
theorem g_59_5 {d : Nat} (hd : 2 ≤ d) {scr : ASc} {res : ARe} {c n : Nat} {h : AHp} {b : Nat} (hb : b + 4 ≤ am_SB) (hh : b + 4 ≤ h.length) {x1 : Int32} {x2 : Int32} {s : Int32 × Int32 × (Ol)} {o : (Int32 × Int32 × (Ol)) ⊕ (Int32 × (Ol))} (hr : G_59_5 x1 x2 s = some o) (ka : ∀ s, o = .inl s → Ex d am_M59 scr (P_59_5 h b c n x1 x2 s) res) (kx : ∀ s, o = .inr s → Ex d am_M59 scr (PX_59_5 h b c n x1 x2 s) res) : Ex d am_M59 scr (P_59_5 h b c n x1 x2 s) res := by
  obtain ⟨x3, x4, B⟩ := s
  delta G_59_5 at hr
  show Ex d am_M59 scr (5, [some (.ref b), some (.int x1), some (.int x2), some (.int x3), some (.int x4)], [], (hput h b (Ol.cells b B)), c, n) res
  refine x_b 1 (S2 := (7, [some (.ref b), some (.int x1), some (.int x2), some (.int x3), some (.int x4)], [.int x4], (hput h b (Ol.cells b B)), c, n)) rfl ?_
  refine x_ldan rfl rfl rfl (h_lt (i := 0) hb (by decide)) ?_
  refine x_getf rfl rfl (h_lt (i := 0) hb (by decide)) (hp_at (i := 0) hh rfl rfl) rfl ?_
  rcases ite_some hr with ⟨h1, hr⟩ | ⟨h1, hr⟩
  · refine x_ct rfl rfl (decide_eq_true h1) ?_
    refine x_fg (Lq.s (Lq.n (Lq.n (Lq.s (Lq.n Lq.nil))))) ?_
    exact kx (x3, B) (Option.some.inj hr).symm
  · refine x_cf rfl rfl (decide_eq_false h1) ?_
    refine x_b 2 (S2 := (17, [some (.ref b), some (.int x1), some (.int x2), some (.int x3), some (.int x4)], [.int x4, .int x1], (hput h b (Ol.cells b B)), c, n)) rfl ?_
    obtain ⟨v3, h2, hr⟩ := bd_some hr
    refine x_c0 (m_55 h2) rfl rfl rfl rfl rfl (by omega) ?_
    rcases ite_some hr with ⟨h4, hr⟩ | ⟨h4, hr⟩
    · refine x_zt rfl rfl (decide_eq_true h4) ?_
      refine x_ldan rfl rfl rfl (h_lt (i := 0) hb (by decide)) ?_
      refine x_getf rfl rfl (h_lt (i := 0) hb (by decide)) (hp_at (i := 0) hh rfl rfl) rfl ?_
      refine x_b 1 (S2 := (35, [some (.ref b), some (.int x1), some (.int x2), some (.int x3), some (.int x4)], [.int x4, .ref (b + 1)], (hput h b (Ol.cells b B)), c, n)) rfl ?_
      obtain ⟨i5, h6, hr⟩ := bd_some hr
      refine x_iald rfl rfl (h_lt (i := 1) hb (by decide)) (hp_at (i := 1) hh rfl rfl) h6 ?_
      refine x_b 1 (S2 := (37, [some (.ref b), some (.int x1), some (.int x2), some (.int x3), some (.int x4)], [.int (-1), .int (B.fewestMoves i5)], (hput h b (Ol.cells b B)), c, n)) rfl ?_
      rcases ite_some hr with ⟨h7, hr⟩ | ⟨h7, hr⟩
      · refine x_ct rfl rfl (decide_eq_true h7) ?_
        refine x_fg (Lq.s (Lq.s (Lq.s (Lq.s (Lq.s Lq.nil))))) ?_
        exact j_59_5_j48 hd hb hh hr ka kx
      · refine x_cf rfl rfl (decide_eq_false h7) ?_
        refine x_ldan rfl rfl rfl (h_lt (i := 0) hb (by decide)) ?_
        refine x_getf rfl rfl (h_lt (i := 0) hb (by decide)) (hp_at (i := 0) hh rfl rfl) rfl ?_
        refine x_b 2 (S2 := (47, [some (.ref b), some (.int x1), some (.int x2), some (.int x3), some (.int x4)], [.int x2, .int x4, .ref (b + 1)], (hput h b (Ol.cells b B)), c, n)) rfl ?_
        obtain ⟨B8, h9, hr⟩ := bd_some hr
        refine x_iast (H := (hput h b (Ol.cells b B8))) rfl rfl (h_lt (i := 1) hb (by decide)) (hp_at (i := 1) hh rfl rfl) h6 (hp_set (i := 1) hh rfl (by decide) (Ol.s_fewestMoves h9)) ?_
        refine x_fg (Lq.s (Lq.s (Lq.s (Lq.s (Lq.s Lq.nil))))) ?_
        exact j_59_5_j48 hd hb hh hr ka kx
    · refine x_zf rfl rfl (decide_eq_false h4) ?_
      refine x_b 2 (S2 := (48, [some (.ref b), some (.int x1), some (.int x2), some (.int (x3 + 1)), some (.int x4)], [], (hput h b (Ol.cells b B)), c, n)) rfl ?_
      refine x_fg (Lq.s (Lq.s (Lq.s (Lq.s (Lq.s Lq.nil))))) ?_
      exact j_59_5_j48 hd hb hh hr ka kx
/-- PebbleProofs$Outlook.look(II)V -/
def F_59 (B : Ol) (x1 : Int32) (x2 : Int32) : Option (Ol) :=
  (lw (G_59_5 x1 x2) 200000 (0, 0, B)).bind fun (v11, B12) =>
  (some (B12.w_fewestEmpty (imn B12.fewestEmpty v11))).bind fun B14 =>
  some B14
theorem f_59 {d : Nat} (hd : 2 ≤ d) {scr : ASc} {res : ARe} {c n : Nat} {h : AHp} {b : Nat} (hb : b + 4 ≤ am_SB) (hh : b + 4 ≤ h.length) {B : Ol} {x1 : Int32} {x2 : Int32} {o : Ol} (hr : F_59 B x1 x2 = some o) (kr : res = (.inl (none), hput h b (Ol.cells b o), c, n)) : Ex d am_M59 scr (0, [some (.ref b), some (.int x1), some (.int x2), none, none], [], (hput h b (Ol.cells b B)), c, n) res := by
  delta F_59 at hr
  refine x_b 4 (S2 := (5, [some (.ref b), some (.int x1), some (.int x2), some (.int 0), some (.int 0)], [], (hput h b (Ol.cells b B)), c, n)) rfl ?_
  refine x_fg (Lq.s (Lq.s (Lq.s (Lq.s (Lq.s Lq.nil))))) ?_
  obtain ⟨o13, h10, hr⟩ := bd_some hr
  refine x_lw (P := P_59_5 h b c n x1 x2) (Q := fun x => Ex d am_M59 scr (PX_59_5 h b c n x1 x2 x) res) (fun s o h1 ka kx => g_59_5 hd hb hh h1 ka kx) _ (0, 0, B) _ h10 ?_
  obtain ⟨v11, B12⟩ := o13
  show Ex d am_M59 scr (54, [some (.ref b), none, none, some (.int v11), none], [], (hput h b (Ol.cells b B12)), c, n) res
  refine x_ldan rfl rfl rfl (h_lt (i := 0) hb (by decide)) ?_
  refine x_ldan rfl rfl rfl (h_lt (i := 0) hb (by decide)) ?_
  refine x_getf rfl rfl (h_lt (i := 0) hb (by decide)) (hp_at (i := 0) hh rfl rfl) rfl ?_
  refine x_b 2 (S2 := (63, [some (.ref b), none, none, some (.int v11), none], [.int (imn B12.fewestEmpty v11), .ref b], (hput h b (Ol.cells b B12)), c, n)) rfl ?_
  obtain ⟨B14, h15, hr⟩ := bd_some hr
  refine x_putf (H := (hput h b (Ol.cells b B14))) rfl rfl (h_lt (i := 0) hb (by decide)) (hp_at (i := 0) hh rfl rfl) ⟨(show 5 < 9 by decide), rfl, rfl, nofun⟩ (hp_set (i := 0) hh rfl (by decide) (Ol.s_fewestEmpty rfl h15)) ?_
  cases hr
  rw [kr]
  exact x_ret rfl rfl rfl
theorem m_59 {h : AHp} {b : Nat} (hb : b + 4 ≤ am_SB) (hh : b + 4 ≤ h.length) {B : Ol} {x1 : Int32} {x2 : Int32} {o : Ol} (hr : F_59 B x1 x2 = some o) : Rn 3 59 [.ref b, .int x1, .int x2] (hput h b (Ol.cells b B)) (.inl (none), hput h b (Ol.cells b o), 0, 0) :=
  x_meth (M := am_M59) rfl (show 3 ≤ 5 by decide) (f_59 (Nat.le_refl _) hb hh hr rfl)
abbrev P_61_11 (h : AHp) (b : Nat) (c n : Nat) (B : Ol) (x1 : Int32) (x2 : Int32) (s : Int32 × Int32) : ASt := (11, [some (.ref b), some (.int x1), some (.int x2), some (.int s.1), some (.int s.2)], [], (hput h b (Ol.cells b B)), c, n)
abbrev PX_61_11 (h : AHp) (b : Nat) (c n : Nat) (B : Ol) (x1 : Int32) (x2 : Int32) (s : Int32) : ASt := (56, [some (.ref b), some (.int x1), some (.int x2), some (.int s), none], [], (hput h b (Ol.cells b B)), c, n)
def G_61_11 (B : Ol) (x1 : Int32) (x2 : Int32) (s : Int32 × Int32) : Option ((Int32 × Int32) ⊕ (Int32) ⊕ (Int32 × (Ol))) := 
  match s with
  | (x3, x4) =>
    if 16384 ≤ x4 then
      some (.inr (.inl x3))
    else
      (ix x3 16384).bind fun i2 =>
      if (B.slots i2) = 0 then
        some (.inr (.inl x3))
      else
        if ¬ (B.slots i2) = (x1 + 1) then
          some (.inl (((x3 + 1) &&& 16383), (x4 + 1)))
        else
          some (.inr (.inr (x2, B)))
theorem g_61_11 {d : Nat} (hd : 1 ≤ d) {scr : ASc} {res : ARe} {c n : Nat} {h : AHp} {b : Nat} (hb : b + 4 ≤ am_SB) (hh : b + 4 ≤ h.length) {B : Ol} {x1 : Int32} {x2 : Int32} {s : Int32 × Int32} {o : (Int32 × Int32) ⊕ (Int32) ⊕ (Int32 × (Ol))} (hr : G_61_11 B x1 x2 s = some o) (ka : ∀ s, o = .inl s → Ex d am_M61 scr (P_61_11 h b c n B x1 x2 s) res) (kx : ∀ s, o = .inr (.inl s) → Ex d am_M61 scr (PX_61_11 h b c n B x1 x2 s) res) (kr : ∀ r, o = .inr (.inr r) → res = (.inl (some (.int r.1)), hput h b (Ol.cells b r.2), c, n)) : Ex d am_M61 scr (P_61_11 h b c n B x1 x2 s) res := by
  obtain ⟨x3, x4⟩ := s
  delta G_61_11 at hr
  show Ex d am_M61 scr (11, [some (.ref b), some (.int x1), some (.int x2), some (.int x3), some (.int x4)], [], (hput h b (Ol.cells b B)), c, n) res
  refine x_b 2 (S2 := (16, [some (.ref b), some (.int x1), some (.int x2), some (.int x3), some (.int x4)], [.int 16384, .int x4], (hput h b (Ol.cells b B)), c, n)) rfl ?_
  rcases ite_some hr with ⟨h1, hr⟩ | ⟨h1, hr⟩
  · refine x_ct rfl rfl (decide_eq_true h1) ?_
    refine x_fg (Lq.s (Lq.s (Lq.s (Lq.s (Lq.n Lq.nil))))) ?_
    exact kx x3 (Option.some.inj hr).symm
  · refine x_cf rfl rfl (decide_eq_false h1) ?_
    refine x_ldan rfl rfl rfl (h_lt (i := 0) hb (by decide)) ?_
    refine x_getf rfl rfl (h_lt (i := 0) hb (by decide)) (hp_at (i := 0) hh rfl rfl) rfl ?_
    refine x_b 1 (S2 := (24, [some (.ref b), some (.int x1), some (.int x2), some (.int x3), some (.int x4)], [.int x3, .ref (b + 3)], (hput h b (Ol.cells b B)), c, n)) rfl ?_
    obtain ⟨i2, h3, hr⟩ := bd_some hr
    refine x_iald rfl rfl (h_lt (i := 3) hb (by decide)) (hp_at (i := 3) hh rfl rfl) h3 ?_
    rcases ite_some hr with ⟨h4, hr⟩ | ⟨h4, hr⟩
    · refine x_zt rfl rfl (decide_eq_true h4) ?_
      refine x_fg (Lq.s (Lq.s (Lq.s (Lq.s (Lq.n Lq.nil))))) ?_
      exact kx x3 (Option.some.inj hr).symm
    · refine x_zf rfl rfl (decide_eq_false h4) ?_
      refine x_ldan rfl rfl rfl (h_lt (i := 0) hb (by decide)) ?_
      refine x_getf rfl rfl (h_lt (i := 0) hb (by decide)) (hp_at (i := 0) hh rfl rfl) rfl ?_
      refine x_b 1 (S2 := (33, [some (.ref b), some (.int x1), some (.int x2), some (.int x3), some (.int x4)], [.int x3, .ref (b + 3)], (hput h b (Ol.cells b B)), c, n)) rfl ?_
      refine x_iald rfl rfl (h_lt (i := 3) hb (by decide)) (hp_at (i := 3) hh rfl rfl) h3 ?_
      refine x_b 3 (S2 := (37, [some (.ref b), some (.int x1), some (.int x2), some (.int x3), some (.int x4)], [.int (x1 + 1), .int (B.slots i2)], (hput h b (Ol.cells b B)), c, n)) rfl ?_
      rcases ite_some hr with ⟨h5, hr⟩ | ⟨h5, hr⟩
      · refine x_ct rfl rfl (decide_eq_true h5) ?_
        refine x_b 8 (S2 := (11, [some (.ref b), some (.int x1), some (.int x2), some (.int ((x3 + 1) &&& 16383)), some (.int (x4 + 1))], [], (hput h b (Ol.cells b B)), c, n)) rfl ?_
        refine x_fg (Lq.s (Lq.s (Lq.s (Lq.s (Lq.s Lq.nil))))) ?_
        exact ka (((x3 + 1) &&& 16383), (x4 + 1)) (Option.some.inj hr).symm
      · refine x_cf rfl rfl (decide_eq_false h5) ?_
        refine x_b 1 (S2 := (41, [some (.ref b), some (.int x1), some (.int x2), some (.int x3), some (.int x4)], [.int x2], (hput h b (Ol.cells b B)), c, n)) rfl ?_
        rw [kr _ (Option.some.inj hr).symm]
        exact x_ret rfl rfl am_ret_i
def J_61_0_j56 (B : Ol) (x1 : Int32) (x2 : Int32) (x3 : Int32) : Option (Int32 × (Ol)) :=
  if x2 < 8192 then
    (ix x3 16384).bind fun i10 =>
    (some (B.w_slots (upd B.slots i10 (x1 + 1)))).bind fun B12 =>
    (ix x2 8192).bind fun i14 =>
    (some (B12.w_row (upd B12.row i14 x1))).bind fun B16 =>
    some ((x2 + 1), B16)
  else
    some (x2, B)
theorem j_61_0_j56 {d : Nat} (hd : 1 ≤ d) {scr : ASc} {res : ARe} {c n : Nat} {h : AHp} {b : Nat} (hb : b + 4 ≤ am_SB) (hh : b + 4 ≤ h.length) {B : Ol} {x1 : Int32} {x2 : Int32} {x3 : Int32} {o : Int32 × (Ol)} (hr : J_61_0_j56 B x1 x2 x3 = some o) (kr : res = (.inl (some (.int o.1)), hput h b (Ol.cells b o.2), c, n)) : Ex d am_M61 scr (56, [some (.ref b), some (.int x1), some (.int x2), some (.int x3), none], [], (hput h b (Ol.cells b B)), c, n) res := by
  delta J_61_0_j56 at hr
  refine x_b 2 (S2 := (60, [some (.ref b), some (.int x1), some (.int x2), some (.int x3), none], [.int 8192, .int x2], (hput h b (Ol.cells b B)), c, n)) rfl ?_
  rcases ite_some hr with ⟨h9, hr⟩ | ⟨h9, hr⟩
  · refine x_ct rfl rfl (decide_eq_true h9) ?_
    refine x_ldan rfl rfl rfl (h_lt (i := 0) hb (by decide)) ?_
    refine x_getf rfl rfl (h_lt (i := 0) hb (by decide)) (hp_at (i := 0) hh rfl rfl) rfl ?_
    refine x_b 4 (S2 := (73, [some (.ref b), some (.int x1), some (.int x2), some (.int x3), none], [.int (x1 + 1), .int x3, .ref (b + 3)], (hput h b (Ol.cells b B)), c, n)) rfl ?_
    obtain ⟨i10, h11, hr⟩ := bd_some hr
    obtain ⟨B12, h13, hr⟩ := bd_some hr
    refine x_iast (H := (hput h b (Ol.cells b B12))) rfl rfl (h_lt (i := 3) hb (by decide)) (hp_at (i := 3) hh rfl rfl) h11 (hp_set (i := 3) hh rfl (by decide) (Ol.s_slots h13)) ?_
    refine x_ldan rfl rfl rfl (h_lt (i := 0) hb (by decide)) ?_
    refine x_getf rfl rfl (h_lt (i := 0) hb (by decide)) (hp_at (i := 0) hh rfl rfl) rfl ?_
    refine x_b 2 (S2 := (80, [some (.ref b), some (.int x1), some (.int x2), some (.int x3), none], [.int x1, .int x2, .ref (b + 2)], (hput h b (Ol.cells b B12)), c, n)) rfl ?_
    obtain ⟨i14, h15, hr⟩ := bd_some hr
    obtain ⟨B16, h17, hr⟩ := bd_some hr
    refine x_iast (H := (hput h b (Ol.cells b B16))) rfl rfl (h_lt (i := 2) hb (by decide)) (hp_at (i := 2) hh rfl rfl) h15 (hp_set (i := 2) hh rfl (by decide) (Ol.s_row h17)) ?_
    refine x_b 3 (S2 := (84, [some (.ref b), some (.int x1), some (.int x2), some (.int x3), none], [.int (x2 + 1)], (hput h b (Ol.cells b B16)), c, n)) rfl ?_
    cases hr
    rw [kr]
    exact x_ret rfl rfl am_ret_i
  · refine x_cf rfl rfl (decide_eq_false h9) ?_
    refine x_b 1 (S2 := (64, [some (.ref b), some (.int x1), some (.int x2), some (.int x3), none], [.int x2], (hput h b (Ol.cells b B)), c, n)) rfl ?_
    cases hr
    rw [kr]
    exact x_ret rfl rfl am_ret_i
/-- PebbleProofs$Outlook.addIfNew(II)I -/
def F_61 (B : Ol) (x1 : Int32) (x2 : Int32) : Option (Int32 × (Ol)) :=
  (lw (G_61_11 B x1 x2) 200000 ((ushr (x1 * (2654435761 : Int32)) 18), 0)).bind fun r =>
    match r with
    | .inr r18 => some r18
    | .inl v7 =>
      J_61_0_j56 B x1 x2 v7
theorem f_61 {d : Nat} (hd : 1 ≤ d) {scr : ASc} {res : ARe} {c n : Nat} {h : AHp} {b : Nat} (hb : b + 4 ≤ am_SB) (hh : b + 4 ≤ h.length) {B : Ol} {x1 : Int32} {x2 : Int32} {o : Int32 × (Ol)} (hr : F_61 B x1 x2 = some o) (kr : res = (.inl (some (.int o.1)), hput h b (Ol.cells b o.2), c, n)) : Ex d am_M61 scr (0, [some (.ref b), some (.int x1), some (.int x2), none, none], [], (hput h b (Ol.cells b B)), c, n) res := by
  delta F_61 at hr
  refine x_b 8 (S2 := (11, [some (.ref b), some (.int x1), some (.int x2), some (.int (ushr (x1 * (2654435761 : Int32)) 18)), some (.int 0)], [], (hput h b (Ol.cells b B)), c, n)) rfl ?_
  refine x_fg (Lq.s (Lq.s (Lq.s (Lq.s (Lq.s Lq.nil))))) ?_
  obtain ⟨o8, h6, hr⟩ := bd_some hr
  refine x_lw (P := P_61_11 h b c n B x1 x2) (Q := fun x => match x with | .inl e => Ex d am_M61 scr (PX_61_11 h b c n B x1 x2 e) res | .inr r => res = (.inl (some (.int r.1)), hput h b (Ol.cells b r.2), c, n)) (fun s o h1 ka kx => g_61_11 hd hb hh h1 ka (fun e he => kx (.inl e) he) (fun r he => kx (.inr r) he)) _ ((ushr (x1 * (2654435761 : Int32)) 18), 0) _ h6 ?_
  rcases o8 with v7 | r18
  · show Ex d am_M61 scr (56, [some (.ref b), some (.int x1), some (.int x2), some (.int v7), none], [], (hput h b (Ol.cells b B)), c, n) res
    refine x_fg (Lq.s (Lq.s (Lq.s (Lq.s (Lq.s Lq.nil))))) ?_
    exact j_61_0_j56 hd hb hh hr kr
  · cases hr; exact kr
theorem m_61 {h : AHp} {b : Nat} (hb : b + 4 ≤ am_SB) (hh : b + 4 ≤ h.length) {B : Ol} {x1 : Int32} {x2 : Int32} {o : Int32 × (Ol)} (hr : F_61 B x1 x2 = some o) : Rn 2 61 [.ref b, .int x1, .int x2] (hput h b (Ol.cells b B)) (.inl (some (.int o.1)), hput h b (Ol.cells b o.2), 0, 0) :=
  x_meth (M := am_M61) rfl (show 3 ≤ 5 by decide) (f_61 (Nat.le_refl _) hb hh hr rfl)
abbrev P_63_5 (H : AHp) (c n : Nat) (x0 : Int32) (s : Int32 × Int32) : ASt := (5, [some (.int x0), some (.int s.1), some (.int s.2)], [], H, c, n)
abbrev PX_63_5 (H : AHp) (c n : Nat) (x0 : Int32) (s : Int32) : ASt := (28, [none, some (.int s), none], [], H, c, n)
def J_63_5_j22 (x0 : Int32) (x1 : Int32) (x2 : Int32) : Option ((Int32 × Int32) ⊕ (Int32)) :=
  some (.inl (x1, (x2 + (-8))))
theorem j_63_5_j22 {d : Nat} (hd : 1 ≤ d) {scr : ASc} {res : ARe} {c n : Nat} {H : AHp} {x0 : Int32} {x1 : Int32} {x2 : Int32} {o : (Int32 × Int32) ⊕ (Int32)} (hr : J_63_5_j22 x0 x1 x2 = some o) (ka : ∀ s, o = .inl s → Ex d am_M63 scr (P_63_5 H c n x0 s) res) (kx : ∀ s, o = .inr s → Ex d am_M63 scr (PX_63_5 H c n x0 s) res) : Ex d am_M63 scr (22, [some (.int x0), some (.int x1), some (.int x2)], [], H, c, n) res := by
  delta J_63_5_j22 at hr
  refine x_b 2 (S2 := (5, [some (.int x0), some (.int x1), some (.int (x2 + (-8)))], [], H, c, n)) rfl ?_
  refine x_fg (Lq.s (Lq.s (Lq.s Lq.nil))) ?_
  exact ka (x1, (x2 + (-8))) (Option.some.inj hr).symm
def G_63_5 (x0 : Int32) (s : Int32 × Int32) : Option ((Int32 × Int32) ⊕ (Int32)) := 
  match s with
  | (x1, x2) =>
    if x2 < 0 then
      some (.inr x1)
    else
      if ((x0 >>> (x2 &&& 31)) &&& 255) = 0 then
        J_63_5_j22 x0 x1 x2
      else
        J_63_5_j22 x0 (x1 + 1) x2
theorem g_63_5 {d : Nat} (hd : 1 ≤ d) {scr : ASc} {res : ARe} {c n : Nat} {H : AHp} {x0 : Int32} {s : Int32 × Int32} {o : (Int32 × Int32) ⊕ (Int32)} (hr : G_63_5 x0 s = some o) (ka : ∀ s, o = .inl s → Ex d am_M63 scr (P_63_5 H c n x0 s) res) (kx : ∀ s, o = .inr s → Ex d am_M63 scr (PX_63_5 H c n x0 s) res) : Ex d am_M63 scr (P_63_5 H c n x0 s) res := by
  obtain ⟨x1, x2⟩ := s
  delta G_63_5 at hr
  show Ex d am_M63 scr (5, [some (.int x0), some (.int x1), some (.int x2)], [], H, c, n) res
  refine x_b 1 (S2 := (6, [some (.int x0), some (.int x1), some (.int x2)], [.int x2], H, c, n)) rfl ?_
  rcases ite_some hr with ⟨h1, hr⟩ | ⟨h1, hr⟩
  · refine x_zt rfl rfl (decide_eq_true h1) ?_
    refine x_fg (Lq.n (Lq.s (Lq.n Lq.nil))) ?_
    exact kx x1 (Option.some.inj hr).symm
  · refine x_zf rfl rfl (decide_eq_false h1) ?_
    refine x_b 5 (S2 := (16, [some (.int x0), some (.int x1), some (.int x2)], [.int ((x0 >>> (x2 &&& 31)) &&& 255)], H, c, n)) rfl ?_
    rcases ite_some hr with ⟨h2, hr⟩ | ⟨h2, hr⟩
    · refine x_zt rfl rfl (decide_eq_true h2) ?_
      refine x_fg (Lq.s (Lq.s (Lq.s Lq.nil))) ?_
      exact j_63_5_j22 hd hr ka kx
    · refine x_zf rfl rfl (decide_eq_false h2) ?_
      refine x_b 1 (S2 := (22, [some (.int x0), some (.int (x1 + 1)), some (.int x2)], [], H, c, n)) rfl ?_
      refine x_fg (Lq.s (Lq.s (Lq.s Lq.nil))) ?_
      exact j_63_5_j22 hd hr ka kx
/-- PebbleProofs$SetupText.bytesIn(I)I -/
def F_63 (x0 : Int32) : Option (Int32) :=
  (lw (G_63_5 x0) 200000 (0, 24)).bind fun v4 =>
  some v4
theorem f_63 {d : Nat} (hd : 1 ≤ d) {scr : ASc} {res : ARe} {c n : Nat} {H : AHp} {x0 : Int32} {o : Int32} (hr : F_63 x0 = some o) (kr : res = (.inl (some (.int o)), H, c, n)) : Ex d am_M63 scr (0, [some (.int x0), none, none], [], H, c, n) res := by
  delta F_63 at hr
  refine x_b 4 (S2 := (5, [some (.int x0), some (.int 0), some (.int 24)], [], H, c, n)) rfl ?_
  refine x_fg (Lq.s (Lq.s (Lq.s Lq.nil))) ?_
  obtain ⟨v4, h3, hr⟩ := bd_some hr
  refine x_lw (P := P_63_5 H c n x0) (Q := fun x => Ex d am_M63 scr (PX_63_5 H c n x0 x) res) (fun s o h1 ka kx => g_63_5 hd h1 ka kx) _ (0, 24) _ h3 ?_
  show Ex d am_M63 scr (28, [none, some (.int v4), none], [], H, c, n) res
  refine x_b 1 (S2 := (29, [none, some (.int v4), none], [.int v4], H, c, n)) rfl ?_
  cases hr
  rw [kr]
  exact x_ret rfl rfl am_ret_i
theorem m_63 {H : AHp} {x0 : Int32} {o : Int32} (hr : F_63 x0 = some o) : Rn 2 63 [.int x0] H (.inl (some (.int o)), H, 0, 0) :=
  x_meth (M := am_M63) rfl (show 1 ≤ 3 by decide) (f_63 (Nat.le_refl _) hr rfl)
/-- PebbleProofsModel.thrown()I -/
def F_133 (B : Md) : Option (Int32) :=
  some B.thrown
theorem f_133 {d : Nat} (hd : 1 ≤ d) {scr : ASc} {res : ARe} {c n : Nat} {H : AHp} {b : Nat} {B : Md} (hR : Rg H b (Md.cells b B)) {o : Int32} (hr : F_133 B = some o) (kr : res = (.inl (some (.int o)), H, c, n)) : Ex d am_M133 scr (0, [some (.ref b)], [], H, c, n) res := by
  delta F_133 at hr
  refine x_ldan rfl rfl rfl (hR.lt (i := 0) (show 0 < 17 by decide)) ?_
  refine x_getf rfl rfl (hR.lt (i := 0) (show 0 < 17 by decide)) (hR.at (i := 0) rfl) rfl ?_
  cases hr
  rw [kr]
  exact x_ret rfl rfl am_ret_i
theorem m_133 {H : AHp} {b : Nat} {B : Md} (hR : Rg H b (Md.cells b B)) {o : Int32} (hr : F_133 B = some o) : Rn 2 133 [.ref b] H (.inl (some (.int o)), H, 0, 0) :=
  x_meth (M := am_M133) rfl (show 1 ≤ 1 by decide) (f_133 (Nat.le_refl _) hR hr rfl)
def J_134_0_j18 (t0 : Int32) : Option (Int32) :=
  if t0 = 0 ∨ t0 = 1 then some t0 else none
theorem j_134_0_j18 {d : Nat} (hd : 1 ≤ d) {scr : ASc} {res : ARe} {c n : Nat} {H : AHp} {t0 : Int32} {o : Int32} (hr : J_134_0_j18 t0 = some o) (kr : res = (.inl (some (.int o)), H, c, n)) : Ex d am_M134 scr (18, [none, none, none, none, none, none], [.int t0], H, c, n) res := by
  delta J_134_0_j18 at hr
  obtain ⟨h2, hr⟩ := itn_some hr
  cases hr
  rw [kr]
  exact x_ret rfl rfl (am_ret_z h2)
def J_134_0_j17  : Option (Int32) :=
  J_134_0_j18 0
theorem j_134_0_j17 {d : Nat} (hd : 1 ≤ d) {scr : ASc} {res : ARe} {c n : Nat} {H : AHp}  {o : Int32} (hr : J_134_0_j17  = some o) (kr : res = (.inl (some (.int o)), H, c, n)) : Ex d am_M134 scr (17, [none, none, none, none, none, none], [], H, c, n) res := by
  delta J_134_0_j17 at hr
  refine x_b 1 (S2 := (18, [none, none, none, none, none, none], [.int 0], H, c, n)) rfl ?_
  refine x_fg (Lq.s (Lq.s (Lq.s (Lq.s (Lq.s (Lq.s Lq.nil)))))) ?_
  exact j_134_0_j18 hd hr kr
/-- PebbleProofsModel.in(JJJ)Z -/
def F_134 (x0 : Int64) (x2 : Int64) (x4 : Int64) : Option (Int32) :=
  if (lg_cmp x0 x2) < 0 then
    J_134_0_j17 
  else
    if 0 < (lg_cmp x0 x4) then
      J_134_0_j17 
    else
      J_134_0_j18 1
theorem f_134 {d : Nat} (hd : 1 ≤ d) {scr : ASc} {res : ARe} {c n : Nat} {H : AHp} {x0 : Int64} {x2 : Int64} {x4 : Int64} {o : Int32} (hr : F_134 x0 x2 x4 = some o) (kr : res = (.inl (some (.int o)), H, c, n)) : Ex d am_M134 scr (0, [some (.long x0), none, some (.long x2), none, some (.long x4), none], [], H, c, n) res := by
  delta F_134 at hr
  refine x_b 3 (S2 := (3, [some (.long x0), none, some (.long x2), none, some (.long x4), none], [.int (lg_cmp x0 x2)], H, c, n)) rfl ?_
  rcases ite_some hr with ⟨h1, hr⟩ | ⟨h1, hr⟩
  · refine x_zt rfl rfl (decide_eq_true h1) ?_
    refine x_fg (Lq.n (Lq.s (Lq.n (Lq.s (Lq.n (Lq.s Lq.nil)))))) ?_
    exact j_134_0_j17 hd hr kr
  · refine x_zf rfl rfl (decide_eq_false h1) ?_
    refine x_b 3 (S2 := (10, [some (.long x0), none, some (.long x2), none, some (.long x4), none], [.int (lg_cmp x0 x4)], H, c, n)) rfl ?_
    rcases ite_some hr with ⟨h3, hr⟩ | ⟨h3, hr⟩
    · refine x_zt rfl rfl (decide_eq_true h3) ?_
      refine x_fg (Lq.n (Lq.s (Lq.n (Lq.s (Lq.n (Lq.s Lq.nil)))))) ?_
      exact j_134_0_j17 hd hr kr
    · refine x_zf rfl rfl (decide_eq_false h3) ?_
      refine x_b 2 (S2 := (18, [some (.long x0), none, some (.long x2), none, some (.long x4), none], [.int 1], H, c, n)) rfl ?_
      refine x_fg (Lq.n (Lq.s (Lq.n (Lq.s (Lq.n (Lq.s Lq.nil)))))) ?_
      exact j_134_0_j18 hd hr kr
theorem m_134 {H : AHp} {x0 : Int64} {x2 : Int64} {x4 : Int64} {o : Int32} (hr : F_134 x0 x2 x4 = some o) : Rn 2 134 [.long x0, .long x2, .long x4] H (.inl (some (.int o)), H, 0, 0) :=
  x_meth (M := am_M134) rfl (show 6 ≤ 6 by decide) (f_134 (Nat.le_refl _) hr rfl)
def J_135_0_j18 (B : Md) (t0 : Int32) : Option (Int32 × (Md)) :=
  if t0 = 0 ∨ t0 = 1 then some (t0, B) else none
theorem j_135_0_j18 {d : Nat} (hd : 1 ≤ d) {scr : ASc} {res : ARe} {c n : Nat} {h : AHp} {b : Nat} (hb : b + 17 ≤ am_SB) (hh : b + 17 ≤ h.length) {B : Md} {t0 : Int32} {o : Int32 × (Md)} (hr : J_135_0_j18 B t0 = some o) (kr : res = (.inl (some (.int o.1)), hput h b (Md.cells b o.2), c, n)) : Ex d am_M135 scr (18, [none, none, none], [.int t0], (hput h b (Md.cells b B)), c, n) res := by
  delta J_135_0_j18 at hr
  obtain ⟨h3, hr⟩ := itn_some hr
  cases hr
  rw [kr]
  exact x_ret rfl rfl (am_ret_z h3)
def J_135_0_j9 (B : Md) (x1 : Int32) : Option (Int32 × (Md)) :=
  if ¬ x1 = 0 then
    J_135_0_j18 B 0
  else
    J_135_0_j18 B 1
theorem j_135_0_j9 {d : Nat} (hd : 1 ≤ d) {scr : ASc} {res : ARe} {c n : Nat} {h : AHp} {b : Nat} (hb : b + 17 ≤ am_SB) (hh : b + 17 ≤ h.length) {B : Md} {x1 : Int32} {o : Int32 × (Md)} (hr : J_135_0_j9 B x1 = some o) (kr : res = (.inl (some (.int o.1)), hput h b (Md.cells b o.2), c, n)) : Ex d am_M135 scr (9, [none, some (.int x1), none], [], (hput h b (Md.cells b B)), c, n) res := by
  delta J_135_0_j9 at hr
  refine x_b 1 (S2 := (10, [none, some (.int x1), none], [.int x1], (hput h b (Md.cells b B)), c, n)) rfl ?_
  rcases ite_some hr with ⟨h2, hr⟩ | ⟨h2, hr⟩
  · refine x_zt rfl rfl (decide_eq_true h2) ?_
    refine x_b 1 (S2 := (18, [none, some (.int x1), none], [.int 0], (hput h b (Md.cells b B)), c, n)) rfl ?_
    refine x_fg (Lq.s (Lq.n (Lq.s Lq.nil))) ?_
    exact j_135_0_j18 hd hb hh hr kr
  · refine x_zf rfl rfl (decide_eq_false h2) ?_
    refine x_b 2 (S2 := (18, [none, some (.int x1), none], [.int 1], (hput h b (Md.cells b B)), c, n)) rfl ?_
    refine x_fg (Lq.s (Lq.n (Lq.s Lq.nil))) ?_
    exact j_135_0_j18 hd hb hh hr kr
/-- PebbleProofsModel.fails(ZI)Z -/
def F_135 (B : Md) (x1 : Int32) (x2 : Int32) : Option (Int32 × (Md)) :=
  if ¬ x1 = 0 then
    J_135_0_j9 B x1
  else
    (some (B.w_thrown x2)).bind fun B4 =>
    J_135_0_j9 B4 x1
theorem f_135 {d : Nat} (hd : 1 ≤ d) {scr : ASc} {res : ARe} {c n : Nat} {h : AHp} {b : Nat} (hb : b + 17 ≤ am_SB) (hh : b + 17 ≤ h.length) {B : Md} {x1 : Int32} {x2 : Int32} {o : Int32 × (Md)} (hr : F_135 B x1 x2 = some o) (kr : res = (.inl (some (.int o.1)), hput h b (Md.cells b o.2), c, n)) : Ex d am_M135 scr (0, [some (.ref b), some (.int x1), some (.int x2)], [], (hput h b (Md.cells b B)), c, n) res := by
  delta F_135 at hr
  refine x_b 1 (S2 := (1, [some (.ref b), some (.int x1), some (.int x2)], [.int x1], (hput h b (Md.cells b B)), c, n)) rfl ?_
  rcases ite_some hr with ⟨h1, hr⟩ | ⟨h1, hr⟩
  · refine x_zt rfl rfl (decide_eq_true h1) ?_
    refine x_fg (Lq.n (Lq.s (Lq.n Lq.nil))) ?_
    exact j_135_0_j9 hd hb hh hr kr
  · refine x_zf rfl rfl (decide_eq_false h1) ?_
    refine x_ldan rfl rfl rfl (h_lt (i := 0) hb (by decide)) ?_
    refine x_b 1 (S2 := (6, [some (.ref b), some (.int x1), some (.int x2)], [.int x2, .ref b], (hput h b (Md.cells b B)), c, n)) rfl ?_
    obtain ⟨B4, h5, hr⟩ := bd_some hr
    refine x_putf (H := (hput h b (Md.cells b B4))) rfl rfl (h_lt (i := 0) hb (by decide)) (hp_at (i := 0) hh rfl rfl) ⟨(show 0 < 28 by decide), rfl, rfl, nofun⟩ (hp_set (i := 0) hh rfl (by decide) (Md.s_thrown rfl h5)) ?_
    refine x_fg (Lq.n (Lq.s (Lq.n Lq.nil))) ?_
    exact j_135_0_j9 hd hb hh hr kr
theorem m_135 {h : AHp} {b : Nat} (hb : b + 17 ≤ am_SB) (hh : b + 17 ≤ h.length) {B : Md} {x1 : Int32} {x2 : Int32} {o : Int32 × (Md)} (hr : F_135 B x1 x2 = some o) : Rn 2 135 [.ref b, .int x1, .int x2] (hput h b (Md.cells b B)) (.inl (some (.int o.1)), hput h b (Md.cells b o.2), 0, 0) :=
  x_meth (M := am_M135) rfl (show 3 ≤ 3 by decide) (f_135 (Nat.le_refl _) hb hh hr rfl)
def J_136_0_j14 (t0 : Int32) : Option (Int32) :=
  if t0 = 0 ∨ t0 = 1 then some t0 else none
theorem j_136_0_j14 {d : Nat} (hd : 1 ≤ d) {scr : ASc} {res : ARe} {c n : Nat} {H : AHp} {t0 : Int32} {o : Int32} (hr : J_136_0_j14 t0 = some o) (kr : res = (.inl (some (.int o)), H, c, n)) : Ex d am_M136 scr (14, [none, none], [.int t0], H, c, n) res := by
  delta J_136_0_j14 at hr
  obtain ⟨h2, hr⟩ := itn_some hr
  cases hr
  rw [kr]
  exact x_ret rfl rfl (am_ret_z h2)
/-- PebbleProofsModel.has(II)Z -/
def F_136 (x0 : Int32) (x1 : Int32) : Option (Int32) :=
  if ¬ ((x0 >>> (x1 &&& 31)) &&& 1) = 1 then
    J_136_0_j14 0
  else
    J_136_0_j14 1
theorem f_136 {d : Nat} (hd : 1 ≤ d) {scr : ASc} {res : ARe} {c n : Nat} {H : AHp} {x0 : Int32} {x1 : Int32} {o : Int32} (hr : F_136 x0 x1 = some o) (kr : res = (.inl (some (.int o)), H, c, n)) : Ex d am_M136 scr (0, [some (.int x0), some (.int x1)], [], H, c, n) res := by
  delta F_136 at hr
  refine x_b 6 (S2 := (6, [some (.int x0), some (.int x1)], [.int 1, .int ((x0 >>> (x1 &&& 31)) &&& 1)], H, c, n)) rfl ?_
  rcases ite_some hr with ⟨h1, hr⟩ | ⟨h1, hr⟩
  · refine x_ct rfl rfl (decide_eq_true h1) ?_
    refine x_b 1 (S2 := (14, [some (.int x0), some (.int x1)], [.int 0], H, c, n)) rfl ?_
    refine x_fg (Lq.n (Lq.n Lq.nil)) ?_
    exact j_136_0_j14 hd hr kr
  · refine x_cf rfl rfl (decide_eq_false h1) ?_
    refine x_b 2 (S2 := (14, [some (.int x0), some (.int x1)], [.int 1], H, c, n)) rfl ?_
    refine x_fg (Lq.n (Lq.n Lq.nil)) ?_
    exact j_136_0_j14 hd hr kr
theorem m_136 {H : AHp} {x0 : Int32} {x1 : Int32} {o : Int32} (hr : F_136 x0 x1 = some o) : Rn 2 136 [.int x0, .int x1] H (.inl (some (.int o)), H, 0, 0) :=
  x_meth (M := am_M136) rfl (show 2 ≤ 2 by decide) (f_136 (Nat.le_refl _) hr rfl)
abbrev P_137_4 (H : AHp) (c n : Nat)  (s : Int32 × Int32) : ASt := (4, [none, some (.int s.1), some (.int s.2)], [], H, c, n)
abbrev PX_137_4 (H : AHp) (c n : Nat)  (s : Int32) : ASt := (20, [none, some (.int s), none], [], H, c, n)
def G_137_4  (s : Int32 × Int32) : Option ((Int32 × Int32) ⊕ (Int32)) := 
  match s with
  | (x1, x2) =>
    if x2 = 0 then
      some (.inr x1)
    else
      some (.inl ((x1 + 1), (x2 &&& (x2 - 1))))
theorem g_137_4 {d : Nat} (hd : 1 ≤ d) {scr : ASc} {res : ARe} {c n : Nat} {H : AHp}  {s : Int32 × Int32} {o : (Int32 × Int32) ⊕ (Int32)} (hr : G_137_4  s = some o) (ka : ∀ s, o = .inl s → Ex d am_M137 scr (P_137_4 H c n  s) res) (kx : ∀ s, o = .inr s → Ex d am_M137 scr (PX_137_4 H c n  s) res) : Ex d am_M137 scr (P_137_4 H c n  s) res := by
  obtain ⟨x1, x2⟩ := s
  delta G_137_4 at hr
  show Ex d am_M137 scr (4, [none, some (.int x1), some (.int x2)], [], H, c, n) res
  refine x_b 1 (S2 := (5, [none, some (.int x1), some (.int x2)], [.int x2], H, c, n)) rfl ?_
  rcases ite_some hr with ⟨h1, hr⟩ | ⟨h1, hr⟩
  · refine x_zt rfl rfl (decide_eq_true h1) ?_
    refine x_fg (Lq.s (Lq.s (Lq.n Lq.nil))) ?_
    exact kx x1 (Option.some.inj hr).symm
  · refine x_zf rfl rfl (decide_eq_false h1) ?_
    refine x_b 8 (S2 := (4, [none, some (.int (x1 + 1)), some (.int (x2 &&& (x2 - 1)))], [], H, c, n)) rfl ?_
    refine x_fg (Lq.s (Lq.s (Lq.s Lq.nil))) ?_
    exact ka ((x1 + 1), (x2 &&& (x2 - 1))) (Option.some.inj hr).symm
/-- PebbleProofsModel.bits(I)I -/
def F_137 (x0 : Int32) : Option (Int32) :=
  (lw (G_137_4 ) 200000 (0, x0)).bind fun v3 =>
  some v3
theorem f_137 {d : Nat} (hd : 1 ≤ d) {scr : ASc} {res : ARe} {c n : Nat} {H : AHp} {x0 : Int32} {o : Int32} (hr : F_137 x0 = some o) (kr : res = (.inl (some (.int o)), H, c, n)) : Ex d am_M137 scr (0, [some (.int x0), none, none], [], H, c, n) res := by
  delta F_137 at hr
  refine x_b 4 (S2 := (4, [some (.int x0), some (.int 0), some (.int x0)], [], H, c, n)) rfl ?_
  refine x_fg (Lq.n (Lq.s (Lq.s Lq.nil))) ?_
  obtain ⟨v3, h2, hr⟩ := bd_some hr
  refine x_lw (P := P_137_4 H c n ) (Q := fun x => Ex d am_M137 scr (PX_137_4 H c n  x) res) (fun s o h1 ka kx => g_137_4 hd h1 ka kx) _ (0, x0) _ h2 ?_
  show Ex d am_M137 scr (20, [none, some (.int v3), none], [], H, c, n) res
  refine x_b 1 (S2 := (21, [none, some (.int v3), none], [.int v3], H, c, n)) rfl ?_
  cases hr
  rw [kr]
  exact x_ret rfl rfl am_ret_i
theorem m_137 {H : AHp} {x0 : Int32} {o : Int32} (hr : F_137 x0 = some o) : Rn 2 137 [.int x0] H (.inl (some (.int o)), H, 0, 0) :=
  x_meth (M := am_M137) rfl (show 1 ≤ 3 by decide) (f_137 (Nat.le_refl _) hr rfl)
def J_138_0_j45 (x5 : Int32) (t0 : Int32) : Option (Int32) :=
  some ((t0 >>> ((24 - (8 * (x5 - x5 / 4 * 4))) &&& 31)) &&& 255)
theorem j_138_0_j45 {d : Nat} (hd : 1 ≤ d) {scr : ASc} {res : ARe} {c n : Nat} {H : AHp} {x5 : Int32} {t0 : Int32} {o : Int32} (hr : J_138_0_j45 x5 t0 = some o) (kr : res = (.inl (some (.int o)), H, c, n)) : Ex d am_M138 scr (45, [none, none, none, none, none, some (.int x5), none], [.int t0], H, c, n) res := by
  delta J_138_0_j45 at hr
  refine x_b 6 (S2 := (56, [none, none, none, none, none, some (.int x5), some (.int t0)], [.int 4, .int x5, .int 8, .int 24, .int t0], H, c, n)) rfl ?_
  refine x_rem rfl rfl (by decide) ?_
  refine x_b 5 (S2 := (64, [none, none, none, none, none, some (.int x5), some (.int t0)], [.int ((t0 >>> ((24 - (8 * (x5 - x5 / 4 * 4))) &&& 31)) &&& 255)], H, c, n)) rfl ?_
  cases hr
  rw [kr]
  exact x_ret rfl rfl am_ret_i
/-- PebbleProofsModel.byteOf(IIIIII)I -/
def F_138 (x0 : Int32) (x1 : Int32) (x2 : Int32) (x3 : Int32) (x4 : Int32) (x5 : Int32) : Option (Int32) :=
  if 4 ≤ x5 then
    if 8 ≤ x5 then
      if 12 ≤ x5 then
        if 16 ≤ x5 then
          J_138_0_j45 x5 x4
        else
          J_138_0_j45 x5 x3
      else
        J_138_0_j45 x5 x2
    else
      J_138_0_j45 x5 x1
  else
    J_138_0_j45 x5 x0
theorem f_138 {d : Nat} (hd : 1 ≤ d) {scr : ASc} {res : ARe} {c n : Nat} {H : AHp} {x0 : Int32} {x1 : Int32} {x2 : Int32} {x3 : Int32} {x4 : Int32} {x5 : Int32} {o : Int32} (hr : F_138 x0 x1 x2 x3 x4 x5 = some o) (kr : res = (.inl (some (.int o)), H, c, n)) : Ex d am_M138 scr (0, [some (.int x0), some (.int x1), some (.int x2), some (.int x3), some (.int x4), some (.int x5), none], [], H, c, n) res := by
  delta F_138 at hr
  refine x_b 2 (S2 := (3, [some (.int x0), some (.int x1), some (.int x2), some (.int x3), some (.int x4), some (.int x5), none], [.int 4, .int x5], H, c, n)) rfl ?_
  rcases ite_some hr with ⟨h1, hr⟩ | ⟨h1, hr⟩
  · refine x_ct rfl rfl (decide_eq_true h1) ?_
    refine x_b 2 (S2 := (14, [some (.int x0), some (.int x1), some (.int x2), some (.int x3), some (.int x4), some (.int x5), none], [.int 8, .int x5], H, c, n)) rfl ?_
    rcases ite_some hr with ⟨h2, hr⟩ | ⟨h2, hr⟩
    · refine x_ct rfl rfl (decide_eq_true h2) ?_
      refine x_b 2 (S2 := (25, [some (.int x0), some (.int x1), some (.int x2), some (.int x3), some (.int x4), some (.int x5), none], [.int 12, .int x5], H, c, n)) rfl ?_
      rcases ite_some hr with ⟨h3, hr⟩ | ⟨h3, hr⟩
      · refine x_ct rfl rfl (decide_eq_true h3) ?_
        refine x_b 2 (S2 := (36, [some (.int x0), some (.int x1), some (.int x2), some (.int x3), some (.int x4), some (.int x5), none], [.int 16, .int x5], H, c, n)) rfl ?_
        rcases ite_some hr with ⟨h4, hr⟩ | ⟨h4, hr⟩
        · refine x_ct rfl rfl (decide_eq_true h4) ?_
          refine x_b 1 (S2 := (45, [some (.int x0), some (.int x1), some (.int x2), some (.int x3), some (.int x4), some (.int x5), none], [.int x4], H, c, n)) rfl ?_
          refine x_fg (Lq.n (Lq.n (Lq.n (Lq.n (Lq.n (Lq.s (Lq.s Lq.nil))))))) ?_
          exact j_138_0_j45 hd hr kr
        · refine x_cf rfl rfl (decide_eq_false h4) ?_
          refine x_b 2 (S2 := (45, [some (.int x0), some (.int x1), some (.int x2), some (.int x3), some (.int x4), some (.int x5), none], [.int x3], H, c, n)) rfl ?_
          refine x_fg (Lq.n (Lq.n (Lq.n (Lq.n (Lq.n (Lq.s (Lq.s Lq.nil))))))) ?_
          exact j_138_0_j45 hd hr kr
      · refine x_cf rfl rfl (decide_eq_false h3) ?_
        refine x_b 2 (S2 := (45, [some (.int x0), some (.int x1), some (.int x2), some (.int x3), some (.int x4), some (.int x5), none], [.int x2], H, c, n)) rfl ?_
        refine x_fg (Lq.n (Lq.n (Lq.n (Lq.n (Lq.n (Lq.s (Lq.s Lq.nil))))))) ?_
        exact j_138_0_j45 hd hr kr
    · refine x_cf rfl rfl (decide_eq_false h2) ?_
      refine x_b 2 (S2 := (45, [some (.int x0), some (.int x1), some (.int x2), some (.int x3), some (.int x4), some (.int x5), none], [.int x1], H, c, n)) rfl ?_
      refine x_fg (Lq.n (Lq.n (Lq.n (Lq.n (Lq.n (Lq.s (Lq.s Lq.nil))))))) ?_
      exact j_138_0_j45 hd hr kr
  · refine x_cf rfl rfl (decide_eq_false h1) ?_
    refine x_b 2 (S2 := (45, [some (.int x0), some (.int x1), some (.int x2), some (.int x3), some (.int x4), some (.int x5), none], [.int x0], H, c, n)) rfl ?_
    refine x_fg (Lq.n (Lq.n (Lq.n (Lq.n (Lq.n (Lq.s (Lq.s Lq.nil))))))) ?_
    exact j_138_0_j45 hd hr kr
theorem m_138 {H : AHp} {x0 : Int32} {x1 : Int32} {x2 : Int32} {x3 : Int32} {x4 : Int32} {x5 : Int32} {o : Int32} (hr : F_138 x0 x1 x2 x3 x4 x5 = some o) : Rn 2 138 [.int x0, .int x1, .int x2, .int x3, .int x4, .int x5] H (.inl (some (.int o)), H, 0, 0) :=
  x_meth (M := am_M138) rfl (show 6 ≤ 7 by decide) (f_138 (Nat.le_refl _) hr rfl)
abbrev P_139_11 (h : AHp) (b : Nat) (c n : Nat) (B : Md) (x1 : Int32) (x2 : Int32) (x3 : Int32) (x4 : Int32) (x5 : Int32) (s : Int32 × Int32) : ASt := (11, [some (.ref b), some (.int x1), some (.int x2), some (.int x3), some (.int x4), some (.int x5), some (.int s.1), some (.int s.2), none], [], (hput h b (Md.cells b B)), c, n)
abbrev PX_139_11 (h : AHp) (b : Nat) (c n : Nat) (B : Md) (x1 : Int32) (x2 : Int32) (x3 : Int32) (x4 : Int32) (x5 : Int32) (s : Int32) : ASt := (49, [some (.ref b), some (.int x1), some (.int x2), some (.int x3), some (.int x4), some (.int x5), some (.int s), none, none], [], (hput h b (Md.cells b B)), c, n)
def J_139_11_j40 (B : Md) (x1 : Int32) (x2 : Int32) (x3 : Int32) (x4 : Int32) (x5 : Int32) (x7 : Int32) (t0 : Int32) (t1 : Int32) : Option ((Int32 × Int32) ⊕ (Int32)) :=
  some (.inl ((t1 + t0), (x7 + 1)))
theorem j_139_11_j40 {d : Nat} (hd : 2 ≤ d) {scr : ASc} {res : ARe} {c n : Nat} {h : AHp} {b : Nat} (hb : b + 17 ≤ am_SB) (hh : b + 17 ≤ h.length) {B : Md} {x1 : Int32} {x2 : Int32} {x3 : Int32} {x4 : Int32} {x5 : Int32} {x7 : Int32} {t0 : Int32} {t1 : Int32} {o : (Int32 × Int32) ⊕ (Int32)} (hr : J_139_11_j40 B x1 x2 x3 x4 x5 x7 t0 t1 = some o) (ka : ∀ s, o = .inl s → Ex d am_M139 scr (P_139_11 h b c n B x1 x2 x3 x4 x5 s) res) (kx : ∀ s, o = .inr s → Ex d am_M139 scr (PX_139_11 h b c n B x1 x2 x3 x4 x5 s) res) : Ex d am_M139 scr (40, [some (.ref b), some (.int x1), some (.int x2), some (.int x3), some (.int x4), some (.int x5), none, some (.int x7), none], [.int t0, .int t1], (hput h b (Md.cells b B)), c, n) res := by
  delta J_139_11_j40 at hr
  refine x_b 4 (S2 := (11, [some (.ref b), some (.int x1), some (.int x2), some (.int x3), some (.int x4), some (.int x5), some (.int (t1 + t0)), some (.int (x7 + 1)), none], [], (hput h b (Md.cells b B)), c, n)) rfl ?_
  refine x_fg (Lq.s (Lq.s (Lq.s (Lq.s (Lq.s (Lq.s (Lq.s (Lq.s (Lq.s Lq.nil))))))))) ?_
  exact ka ((t1 + t0), (x7 + 1)) (Option.some.inj hr).symm
def G_139_11 (B : Md) (x1 : Int32) (x2 : Int32) (x3 : Int32) (x4 : Int32) (x5 : Int32) (s : Int32 × Int32) : Option ((Int32 × Int32) ⊕ (Int32)) := 
  match s with
  | (x6, x7) =>
    if 20 ≤ x7 then
      some (.inr x6)
    else
      (F_138 x1 x2 x3 x4 x5 x7).bind fun v5 =>
      if v5 = 0 then
        J_139_11_j40 B x1 x2 x3 x4 x5 x7 0 x6
      else
        J_139_11_j40 B x1 x2 x3 x4 x5 x7 1 x6
theorem g_139_11 {d : Nat} (hd : 2 ≤ d) {scr : ASc} {res : ARe} {c n : Nat} {h : AHp} {b : Nat} (hb : b + 17 ≤ am_SB) (hh : b + 17 ≤ h.length) {B : Md} {x1 : Int32} {x2 : Int32} {x3 : Int32} {x4 : Int32} {x5 : Int32} {s : Int32 × Int32} {o : (Int32 × Int32) ⊕ (Int32)} (hr : G_139_11 B x1 x2 x3 x4 x5 s = some o) (ka : ∀ s, o = .inl s → Ex d am_M139 scr (P_139_11 h b c n B x1 x2 x3 x4 x5 s) res) (kx : ∀ s, o = .inr s → Ex d am_M139 scr (PX_139_11 h b c n B x1 x2 x3 x4 x5 s) res) : Ex d am_M139 scr (P_139_11 h b c n B x1 x2 x3 x4 x5 s) res := by
  obtain ⟨x6, x7⟩ := s
  delta G_139_11 at hr
  show Ex d am_M139 scr (11, [some (.ref b), some (.int x1), some (.int x2), some (.int x3), some (.int x4), some (.int x5), some (.int x6), some (.int x7), none], [], (hput h b (Md.cells b B)), c, n) res
  refine x_b 2 (S2 := (15, [some (.ref b), some (.int x1), some (.int x2), some (.int x3), some (.int x4), some (.int x5), some (.int x6), some (.int x7), none], [.int 20, .int x7], (hput h b (Md.cells b B)), c, n)) rfl ?_
  rcases ite_some hr with ⟨h3, hr⟩ | ⟨h3, hr⟩
  · refine x_ct rfl rfl (decide_eq_true h3) ?_
    refine x_fg (Lq.s (Lq.s (Lq.s (Lq.s (Lq.s (Lq.s (Lq.s (Lq.n (Lq.s Lq.nil))))))))) ?_
    exact kx x6 (Option.some.inj hr).symm
  · refine x_cf rfl rfl (decide_eq_false h3) ?_
    refine x_b 7 (S2 := (29, [some (.ref b), some (.int x1), some (.int x2), some (.int x3), some (.int x4), some (.int x5), some (.int x6), some (.int x7), none], [.int x7, .int x5, .int x4, .int x3, .int x2, .int x1, .int x6], (hput h b (Md.cells b B)), c, n)) rfl ?_
    obtain ⟨v5, h4, hr⟩ := bd_some hr
    refine x_c0 (m_138 h4) rfl rfl rfl rfl rfl (by omega) ?_
    rcases ite_some hr with ⟨h6, hr⟩ | ⟨h6, hr⟩
    · refine x_zt rfl rfl (decide_eq_true h6) ?_
      refine x_b 1 (S2 := (40, [some (.ref b), some (.int x1), some (.int x2), some (.int x3), some (.int x4), some (.int x5), some (.int x6), some (.int x7), none], [.int 0, .int x6], (hput h b (Md.cells b B)), c, n)) rfl ?_
      refine x_fg (Lq.s (Lq.s (Lq.s (Lq.s (Lq.s (Lq.s (Lq.n (Lq.s (Lq.s Lq.nil))))))))) ?_
      exact j_139_11_j40 hd hb hh hr ka kx
    · refine x_zf rfl rfl (decide_eq_false h6) ?_
      refine x_b 2 (S2 := (40, [some (.ref b), some (.int x1), some (.int x2), some (.int x3), some (.int x4), some (.int x5), some (.int x6), some (.int x7), none], [.int 1, .int x6], (hput h b (Md.cells b B)), c, n)) rfl ?_
      refine x_fg (Lq.s (Lq.s (Lq.s (Lq.s (Lq.s (Lq.s (Lq.n (Lq.s (Lq.s Lq.nil))))))))) ?_
      exact j_139_11_j40 hd hb hh hr ka kx
abbrev P_139_80 (h : AHp) (b : Nat) (c n : Nat) (x1 : Int32) (x2 : Int32) (x3 : Int32) (x4 : Int32) (x5 : Int32) (s : Int32 × (Md)) : ASt := (80, [some (.ref b), some (.int x1), some (.int x2), some (.int x3), some (.int x4), some (.int x5), none, some (.int s.1), none], [], (hput h b (Md.cells b s.2)), c, n)
abbrev PX_139_80 (h : AHp) (b : Nat) (c n : Nat) (x1 : Int32) (x2 : Int32) (x3 : Int32) (x4 : Int32) (x5 : Int32) (s : (Md)) : ASt := (133, [some (.ref b), none, none, none, none, none, none, none, none], [], (hput h b (Md.cells b s)), c, n)
def J_139_80_j127 (B : Md) (x1 : Int32) (x2 : Int32) (x3 : Int32) (x4 : Int32) (x5 : Int32) (x7 : Int32) : Option ((Int32 × (Md)) ⊕ ((Md))) :=
  some (.inl ((x7 + 1), B))
theorem j_139_80_j127 {d : Nat} (hd : 2 ≤ d) {scr : ASc} {res : ARe} {c n : Nat} {h : AHp} {b : Nat} (hb : b + 17 ≤ am_SB) (hh : b + 17 ≤ h.length) {B : Md} {x1 : Int32} {x2 : Int32} {x3 : Int32} {x4 : Int32} {x5 : Int32} {x7 : Int32} {o : (Int32 × (Md)) ⊕ ((Md))} (hr : J_139_80_j127 B x1 x2 x3 x4 x5 x7 = some o) (ka : ∀ s, o = .inl s → Ex d am_M139 scr (P_139_80 h b c n x1 x2 x3 x4 x5 s) res) (kx : ∀ s, o = .inr s → Ex d am_M139 scr (PX_139_80 h b c n x1 x2 x3 x4 x5 s) res) : Ex d am_M139 scr (127, [some (.ref b), some (.int x1), some (.int x2), some (.int x3), some (.int x4), some (.int x5), none, some (.int x7), none], [], (hput h b (Md.cells b B)), c, n) res := by
  delta J_139_80_j127 at hr
  refine x_b 2 (S2 := (80, [some (.ref b), some (.int x1), some (.int x2), some (.int x3), some (.int x4), some (.int x5), none, some (.int (x7 + 1)), none], [], (hput h b (Md.cells b B)), c, n)) rfl ?_
  refine x_fg (Lq.s (Lq.s (Lq.s (Lq.s (Lq.s (Lq.s (Lq.s (Lq.s (Lq.s Lq.nil))))))))) ?_
  exact ka ((x7 + 1), B) (Option.some.inj hr).symm
def G_139_80 (x1 : Int32) (x2 : Int32) (x3 : Int32) (x4 : Int32) (x5 : Int32) (s : Int32 × (Md)) : Option ((Int32 × (Md)) ⊕ ((Md))) := 
  match s with
  | (x7, B) =>
    if 20 ≤ x7 then
      some (.inr B)
    else
      (F_138 x1 x2 x3 x4 x5 x7).bind fun v17 =>
      if v17 = 0 then
        J_139_80_j127 B x1 x2 x3 x4 x5 x7
      else
        (ix B.length 400).bind fun i19 =>
        (some (B.w_buffer (upd B.buffer i19 v17))).bind fun B21 =>
        (some (B21.w_length (B21.length + 1))).bind fun B23 =>
        J_139_80_j127 B23 x1 x2 x3 x4 x5 x7
theorem g_139_80 {d : Nat} (hd : 2 ≤ d) {scr : ASc} {res : ARe} {c n : Nat} {h : AHp} {b : Nat} (hb : b + 17 ≤ am_SB) (hh : b + 17 ≤ h.length) {x1 : Int32} {x2 : Int32} {x3 : Int32} {x4 : Int32} {x5 : Int32} {s : Int32 × (Md)} {o : (Int32 × (Md)) ⊕ ((Md))} (hr : G_139_80 x1 x2 x3 x4 x5 s = some o) (ka : ∀ s, o = .inl s → Ex d am_M139 scr (P_139_80 h b c n x1 x2 x3 x4 x5 s) res) (kx : ∀ s, o = .inr s → Ex d am_M139 scr (PX_139_80 h b c n x1 x2 x3 x4 x5 s) res) : Ex d am_M139 scr (P_139_80 h b c n x1 x2 x3 x4 x5 s) res := by
  obtain ⟨x7, B⟩ := s
  delta G_139_80 at hr
  show Ex d am_M139 scr (80, [some (.ref b), some (.int x1), some (.int x2), some (.int x3), some (.int x4), some (.int x5), none, some (.int x7), none], [], (hput h b (Md.cells b B)), c, n) res
  refine x_b 2 (S2 := (84, [some (.ref b), some (.int x1), some (.int x2), some (.int x3), some (.int x4), some (.int x5), none, some (.int x7), none], [.int 20, .int x7], (hput h b (Md.cells b B)), c, n)) rfl ?_
  rcases ite_some hr with ⟨h15, hr⟩ | ⟨h15, hr⟩
  · refine x_ct rfl rfl (decide_eq_true h15) ?_
    refine x_fg (Lq.s (Lq.n (Lq.n (Lq.n (Lq.n (Lq.n (Lq.s (Lq.n (Lq.s Lq.nil))))))))) ?_
    exact kx B (Option.some.inj hr).symm
  · refine x_cf rfl rfl (decide_eq_false h15) ?_
    refine x_b 6 (S2 := (96, [some (.ref b), some (.int x1), some (.int x2), some (.int x3), some (.int x4), some (.int x5), none, some (.int x7), none], [.int x7, .int x5, .int x4, .int x3, .int x2, .int x1], (hput h b (Md.cells b B)), c, n)) rfl ?_
    obtain ⟨v17, h16, hr⟩ := bd_some hr
    refine x_c0 (m_138 h16) rfl rfl rfl rfl rfl (by omega) ?_
    refine x_b 2 (S2 := (103, [some (.ref b), some (.int x1), some (.int x2), some (.int x3), some (.int x4), some (.int x5), none, some (.int x7), some (.int v17)], [.int v17], (hput h b (Md.cells b B)), c, n)) rfl ?_
    rcases ite_some hr with ⟨h18, hr⟩ | ⟨h18, hr⟩
    · refine x_zt rfl rfl (decide_eq_true h18) ?_
      refine x_fg (Lq.s (Lq.s (Lq.s (Lq.s (Lq.s (Lq.s (Lq.s (Lq.s (Lq.n Lq.nil))))))))) ?_
      exact j_139_80_j127 hd hb hh hr ka kx
    · refine x_zf rfl rfl (decide_eq_false h18) ?_
      refine x_ldan rfl rfl rfl (h_lt (i := 0) hb (by decide)) ?_
      refine x_getf rfl rfl (h_lt (i := 0) hb (by decide)) (hp_at (i := 0) hh rfl rfl) rfl ?_
      refine x_ldan rfl rfl rfl (h_lt (i := 0) hb (by decide)) ?_
      refine x_getf rfl rfl (h_lt (i := 0) hb (by decide)) (hp_at (i := 0) hh rfl rfl) rfl ?_
      refine x_b 1 (S2 := (116, [some (.ref b), some (.int x1), some (.int x2), some (.int x3), some (.int x4), some (.int x5), none, some (.int x7), some (.int v17)], [.int v17, .int B.length, .ref (b + 1)], (hput h b (Md.cells b B)), c, n)) rfl ?_
      obtain ⟨i19, h20, hr⟩ := bd_some hr
      obtain ⟨B21, h22, hr⟩ := bd_some hr
      refine x_iast (H := (hput h b (Md.cells b B21))) rfl rfl (h_lt (i := 1) hb (by decide)) (hp_at (i := 1) hh rfl rfl) h20 (hp_set (i := 1) hh rfl (by decide) (Md.s_buffer h22)) ?_
      refine x_ldan rfl rfl rfl (h_lt (i := 0) hb (by decide)) ?_
      refine x_b 1 (S2 := (119, [some (.ref b), some (.int x1), some (.int x2), some (.int x3), some (.int x4), some (.int x5), none, some (.int x7), some (.int v17)], [.ref b, .ref b], (hput h b (Md.cells b B21)), c, n)) rfl ?_
      refine x_getf rfl rfl (h_lt (i := 0) hb (by decide)) (hp_at (i := 0) hh rfl rfl) rfl ?_
      refine x_b 2 (S2 := (124, [some (.ref b), some (.int x1), some (.int x2), some (.int x3), some (.int x4), some (.int x5), none, some (.int x7), some (.int v17)], [.int (B21.length + 1), .ref b], (hput h b (Md.cells b B21)), c, n)) rfl ?_
      obtain ⟨B23, h24, hr⟩ := bd_some hr
      refine x_putf (H := (hput h b (Md.cells b B23))) rfl rfl (h_lt (i := 0) hb (by decide)) (hp_at (i := 0) hh rfl rfl) ⟨(show 2 < 28 by decide), rfl, rfl, nofun⟩ (hp_set (i := 0) hh rfl (by decide) (Md.s_length rfl h24)) ?_
      refine x_fg (Lq.s (Lq.s (Lq.s (Lq.s (Lq.s (Lq.s (Lq.s (Lq.s (Lq.n Lq.nil))))))))) ?_
      exact j_139_80_j127 hd hb hh hr ka kx
def J_139_0_j68 (B : Md) (x1 : Int32) (x2 : Int32) (x3 : Int32) (x4 : Int32) (x5 : Int32) (t0 : Int32) : Option (Int32 × (Md)) :=
  (F_135 B t0 1).bind fun (v12, B13) =>
  if v12 = 0 then
    (lw (G_139_80 x1 x2 x3 x4 x5) 200000 (0, B13)).bind fun B26 =>
    some (B26.length, B26)
  else
    some (0, B13)
theorem j_139_0_j68 {d : Nat} (hd : 2 ≤ d) {scr : ASc} {res : ARe} {c n : Nat} {h : AHp} {b : Nat} (hb : b + 17 ≤ am_SB) (hh : b + 17 ≤ h.length) {B : Md} {x1 : Int32} {x2 : Int32} {x3 : Int32} {x4 : Int32} {x5 : Int32} {t0 : Int32} {o : Int32 × (Md)} (hr : J_139_0_j68 B x1 x2 x3 x4 x5 t0 = some o) (kr : res = (.inl (some (.int o.1)), hput h b (Md.cells b o.2), c, n)) : Ex d am_M139 scr (68, [some (.ref b), some (.int x1), some (.int x2), some (.int x3), some (.int x4), some (.int x5), none, none, none], [.int t0, .ref b], (hput h b (Md.cells b B)), c, n) res := by
  delta J_139_0_j68 at hr
  refine x_b 1 (S2 := (69, [some (.ref b), some (.int x1), some (.int x2), some (.int x3), some (.int x4), some (.int x5), none, none, none], [.int 1, .int t0, .ref b], (hput h b (Md.cells b B)), c, n)) rfl ?_
  obtain ⟨⟨v12, B13⟩, h11, hr⟩ := bd_some hr
  refine x_c0 (m_135 hb hh h11) rfl rfl rfl rfl (am_recv_v (h_lt (i := 0) hb (by decide)) (hp_at (i := 0) hh rfl rfl) rfl) (by omega) ?_
  rcases ite_some hr with ⟨h14, hr⟩ | ⟨h14, hr⟩
  · refine x_zt rfl rfl (decide_eq_true h14) ?_
    refine x_b 2 (S2 := (80, [some (.ref b), some (.int x1), some (.int x2), some (.int x3), some (.int x4), some (.int x5), none, some (.int 0), none], [], (hput h b (Md.cells b B13)), c, n)) rfl ?_
    refine x_fg (Lq.s (Lq.s (Lq.s (Lq.s (Lq.s (Lq.s (Lq.s (Lq.s (Lq.s Lq.nil))))))))) ?_
    obtain ⟨B26, h25, hr⟩ := bd_some hr
    refine x_lw (P := P_139_80 h b c n x1 x2 x3 x4 x5) (Q := fun x => Ex d am_M139 scr (PX_139_80 h b c n x1 x2 x3 x4 x5 x) res) (fun s o h1 ka kx => g_139_80 hd hb hh h1 ka kx) _ (0, B13) _ h25 ?_
    show Ex d am_M139 scr (133, [some (.ref b), none, none, none, none, none, none, none, none], [], (hput h b (Md.cells b B26)), c, n) res
    refine x_ldan rfl rfl rfl (h_lt (i := 0) hb (by decide)) ?_
    refine x_getf rfl rfl (h_lt (i := 0) hb (by decide)) (hp_at (i := 0) hh rfl rfl) rfl ?_
    cases hr
    rw [kr]
    exact x_ret rfl rfl am_ret_i
  · refine x_zf rfl rfl (decide_eq_false h14) ?_
    refine x_b 1 (S2 := (76, [some (.ref b), some (.int x1), some (.int x2), some (.int x3), some (.int x4), some (.int x5), none, none, none], [.int 0], (hput h b (Md.cells b B13)), c, n)) rfl ?_
    cases hr
    rw [kr]
    exact x_ret rfl rfl am_ret_i
/-- PebbleProofsModel.append(IIIII)I -/
def F_139 (B : Md) (x1 : Int32) (x2 : Int32) (x3 : Int32) (x4 : Int32) (x5 : Int32) : Option (Int32 × (Md)) :=
  (some (B.w_thrown 0)).bind fun B1 =>
  (lw (G_139_11 B1 x1 x2 x3 x4 x5) 200000 (0, 0)).bind fun v8 =>
  if 400 < (B1.length + v8) then
    J_139_0_j68 B1 x1 x2 x3 x4 x5 0
  else
    J_139_0_j68 B1 x1 x2 x3 x4 x5 1
theorem f_139 {d : Nat} (hd : 2 ≤ d) {scr : ASc} {res : ARe} {c n : Nat} {h : AHp} {b : Nat} (hb : b + 17 ≤ am_SB) (hh : b + 17 ≤ h.length) {B : Md} {x1 : Int32} {x2 : Int32} {x3 : Int32} {x4 : Int32} {x5 : Int32} {o : Int32 × (Md)} (hr : F_139 B x1 x2 x3 x4 x5 = some o) (kr : res = (.inl (some (.int o.1)), hput h b (Md.cells b o.2), c, n)) : Ex d am_M139 scr (0, [some (.ref b), some (.int x1), some (.int x2), some (.int x3), some (.int x4), some (.int x5), none, none, none], [], (hput h b (Md.cells b B)), c, n) res := by
  delta F_139 at hr
  refine x_ldan rfl rfl rfl (h_lt (i := 0) hb (by decide)) ?_
  refine x_b 1 (S2 := (2, [some (.ref b), some (.int x1), some (.int x2), some (.int x3), some (.int x4), some (.int x5), none, none, none], [.int 0, .ref b], (hput h b (Md.cells b B)), c, n)) rfl ?_
  obtain ⟨B1, h2, hr⟩ := bd_some hr
  refine x_putf (H := (hput h b (Md.cells b B1))) rfl rfl (h_lt (i := 0) hb (by decide)) (hp_at (i := 0) hh rfl rfl) ⟨(show 0 < 28 by decide), rfl, rfl, nofun⟩ (hp_set (i := 0) hh rfl (by decide) (Md.s_thrown rfl h2)) ?_
  refine x_b 4 (S2 := (11, [some (.ref b), some (.int x1), some (.int x2), some (.int x3), some (.int x4), some (.int x5), some (.int 0), some (.int 0), none], [], (hput h b (Md.cells b B1)), c, n)) rfl ?_
  refine x_fg (Lq.s (Lq.s (Lq.s (Lq.s (Lq.s (Lq.s (Lq.s (Lq.s (Lq.s Lq.nil))))))))) ?_
  obtain ⟨v8, h7, hr⟩ := bd_some hr
  refine x_lw (P := P_139_11 h b c n B1 x1 x2 x3 x4 x5) (Q := fun x => Ex d am_M139 scr (PX_139_11 h b c n B1 x1 x2 x3 x4 x5 x) res) (fun s o h1 ka kx => g_139_11 hd hb hh h1 ka kx) _ (0, 0) _ h7 ?_
  show Ex d am_M139 scr (49, [some (.ref b), some (.int x1), some (.int x2), some (.int x3), some (.int x4), some (.int x5), some (.int v8), none, none], [], (hput h b (Md.cells b B1)), c, n) res
  refine x_ldan rfl rfl rfl (h_lt (i := 0) hb (by decide)) ?_
  refine x_ldan rfl rfl rfl (h_lt (i := 0) hb (by decide)) ?_
  refine x_getf rfl rfl (h_lt (i := 0) hb (by decide)) (hp_at (i := 0) hh rfl rfl) rfl ?_
  refine x_b 3 (S2 := (60, [some (.ref b), some (.int x1), some (.int x2), some (.int x3), some (.int x4), some (.int x5), some (.int v8), none, none], [.int 400, .int (B1.length + v8), .ref b], (hput h b (Md.cells b B1)), c, n)) rfl ?_
  rcases ite_some hr with ⟨h10, hr⟩ | ⟨h10, hr⟩
  · refine x_ct rfl rfl (decide_eq_true h10) ?_
    refine x_b 1 (S2 := (68, [some (.ref b), some (.int x1), some (.int x2), some (.int x3), some (.int x4), some (.int x5), some (.int v8), none, none], [.int 0, .ref b], (hput h b (Md.cells b B1)), c, n)) rfl ?_
    refine x_fg (Lq.s (Lq.s (Lq.s (Lq.s (Lq.s (Lq.s (Lq.n (Lq.s (Lq.s Lq.nil))))))))) ?_
    exact j_139_0_j68 hd hb hh hr kr
  · refine x_cf rfl rfl (decide_eq_false h10) ?_
    refine x_b 2 (S2 := (68, [some (.ref b), some (.int x1), some (.int x2), some (.int x3), some (.int x4), some (.int x5), some (.int v8), none, none], [.int 1, .ref b], (hput h b (Md.cells b B1)), c, n)) rfl ?_
    refine x_fg (Lq.s (Lq.s (Lq.s (Lq.s (Lq.s (Lq.s (Lq.n (Lq.s (Lq.s Lq.nil))))))))) ?_
    exact j_139_0_j68 hd hb hh hr kr
theorem m_139 {h : AHp} {b : Nat} (hb : b + 17 ≤ am_SB) (hh : b + 17 ≤ h.length) {B : Md} {x1 : Int32} {x2 : Int32} {x3 : Int32} {x4 : Int32} {x5 : Int32} {o : Int32 × (Md)} (hr : F_139 B x1 x2 x3 x4 x5 = some o) : Rn 3 139 [.ref b, .int x1, .int x2, .int x3, .int x4, .int x5] (hput h b (Md.cells b B)) (.inl (some (.int o.1)), hput h b (Md.cells b o.2), 0, 0) :=
  x_meth (M := am_M139) rfl (show 6 ≤ 9 by decide) (f_139 (Nat.le_refl _) hb hh hr rfl)
/-- PebbleProofsModel.truncate(I)I -/
def F_140 (B : Md) (x1 : Int32) : Option (Int32 × (Md)) :=
  (some (B.w_thrown 0)).bind fun B1 =>
  (F_134 x1.toInt64 0 B1.length.toInt64).bind fun v4 =>
  (F_135 B1 v4 1).bind fun (v6, B7) =>
  if v6 = 0 then
    (some (B7.w_length x1)).bind fun B9 =>
    some (x1, B9)
  else
    some (0, B7)
theorem f_140 {d : Nat} (hd : 2 ≤ d) {scr : ASc} {res : ARe} {c n : Nat} {h : AHp} {b : Nat} (hb : b + 17 ≤ am_SB) (hh : b + 17 ≤ h.length) {B : Md} {x1 : Int32} {o : Int32 × (Md)} (hr : F_140 B x1 = some o) (kr : res = (.inl (some (.int o.1)), hput h b (Md.cells b o.2), c, n)) : Ex d am_M140 scr (0, [some (.ref b), some (.int x1)], [], (hput h b (Md.cells b B)), c, n) res := by
  delta F_140 at hr
  refine x_ldan rfl rfl rfl (h_lt (i := 0) hb (by decide)) ?_
  refine x_b 1 (S2 := (2, [some (.ref b), some (.int x1)], [.int 0, .ref b], (hput h b (Md.cells b B)), c, n)) rfl ?_
  obtain ⟨B1, h2, hr⟩ := bd_some hr
  refine x_putf (H := (hput h b (Md.cells b B1))) rfl rfl (h_lt (i := 0) hb (by decide)) (hp_at (i := 0) hh rfl rfl) ⟨(show 0 < 28 by decide), rfl, rfl, nofun⟩ (hp_set (i := 0) hh rfl (by decide) (Md.s_thrown rfl h2)) ?_
  refine x_ldan rfl rfl rfl (h_lt (i := 0) hb (by decide)) ?_
  refine x_b 3 (S2 := (9, [some (.ref b), some (.int x1)], [.long 0, .long x1.toInt64, .ref b], (hput h b (Md.cells b B1)), c, n)) rfl ?_
  refine x_ldan rfl rfl rfl (h_lt (i := 0) hb (by decide)) ?_
  refine x_getf rfl rfl (h_lt (i := 0) hb (by decide)) (hp_at (i := 0) hh rfl rfl) rfl ?_
  refine x_b 1 (S2 := (14, [some (.ref b), some (.int x1)], [.long B1.length.toInt64, .long 0, .long x1.toInt64, .ref b], (hput h b (Md.cells b B1)), c, n)) rfl ?_
  obtain ⟨v4, h3, hr⟩ := bd_some hr
  refine x_c0 (m_134 h3) rfl rfl rfl rfl rfl (by omega) ?_
  refine x_b 1 (S2 := (18, [some (.ref b), some (.int x1)], [.int 1, .int v4, .ref b], (hput h b (Md.cells b B1)), c, n)) rfl ?_
  obtain ⟨⟨v6, B7⟩, h5, hr⟩ := bd_some hr
  refine x_c0 (m_135 hb hh h5) rfl rfl rfl rfl (am_recv_v (h_lt (i := 0) hb (by decide)) (hp_at (i := 0) hh rfl rfl) rfl) (by omega) ?_
  rcases ite_some hr with ⟨h8, hr⟩ | ⟨h8, hr⟩
  · refine x_zt rfl rfl (decide_eq_true h8) ?_
    refine x_ldan rfl rfl rfl (h_lt (i := 0) hb (by decide)) ?_
    refine x_b 1 (S2 := (28, [some (.ref b), some (.int x1)], [.int x1, .ref b], (hput h b (Md.cells b B7)), c, n)) rfl ?_
    obtain ⟨B9, h10, hr⟩ := bd_some hr
    refine x_putf (H := (hput h b (Md.cells b B9))) rfl rfl (h_lt (i := 0) hb (by decide)) (hp_at (i := 0) hh rfl rfl) ⟨(show 2 < 28 by decide), rfl, rfl, nofun⟩ (hp_set (i := 0) hh rfl (by decide) (Md.s_length rfl h10)) ?_
    refine x_b 1 (S2 := (32, [some (.ref b), some (.int x1)], [.int x1], (hput h b (Md.cells b B9)), c, n)) rfl ?_
    cases hr
    rw [kr]
    exact x_ret rfl rfl am_ret_i
  · refine x_zf rfl rfl (decide_eq_false h8) ?_
    refine x_b 1 (S2 := (25, [some (.ref b), some (.int x1)], [.int 0], (hput h b (Md.cells b B7)), c, n)) rfl ?_
    cases hr
    rw [kr]
    exact x_ret rfl rfl am_ret_i
theorem m_140 {h : AHp} {b : Nat} (hb : b + 17 ≤ am_SB) (hh : b + 17 ≤ h.length) {B : Md} {x1 : Int32} {o : Int32 × (Md)} (hr : F_140 B x1 = some o) : Rn 3 140 [.ref b, .int x1] (hput h b (Md.cells b B)) (.inl (some (.int o.1)), hput h b (Md.cells b o.2), 0, 0) :=
  x_meth (M := am_M140) rfl (show 2 ≤ 2 by decide) (f_140 (Nat.le_refl _) hb hh hr rfl)
def J_141_0_j18 (B : Md) (t0 : Int32) : Option (Int32) :=
  some t0
theorem j_141_0_j18 {d : Nat} (hd : 1 ≤ d) {scr : ASc} {res : ARe} {c n : Nat} {H : AHp} {b : Nat} {B : Md} {t0 : Int32} (hR : Rg H b (Md.cells b B)) {o : Int32} (hr : J_141_0_j18 B t0 = some o) (kr : res = (.inl (some (.int o)), H, c, n)) : Ex d am_M141 scr (18, [none, none], [.int t0], H, c, n) res := by
  delta J_141_0_j18 at hr
  cases hr
  rw [kr]
  exact x_ret rfl rfl am_ret_i
/-- PebbleProofsModel.peek(I)I -/
def F_141 (B : Md) (x1 : Int32) : Option (Int32) :=
  if B.length ≤ x1 then
    J_141_0_j18 B (-1)
  else
    (ix x1 400).bind fun i2 =>
    J_141_0_j18 B (B.buffer i2)
theorem f_141 {d : Nat} (hd : 1 ≤ d) {scr : ASc} {res : ARe} {c n : Nat} {H : AHp} {b : Nat} {B : Md} {x1 : Int32} (hR : Rg H b (Md.cells b B)) {o : Int32} (hr : F_141 B x1 = some o) (kr : res = (.inl (some (.int o)), H, c, n)) : Ex d am_M141 scr (0, [some (.ref b), some (.int x1)], [], H, c, n) res := by
  delta F_141 at hr
  refine x_b 1 (S2 := (1, [some (.ref b), some (.int x1)], [.int x1], H, c, n)) rfl ?_
  refine x_ldan rfl rfl rfl (hR.lt (i := 0) (show 0 < 17 by decide)) ?_
  refine x_getf rfl rfl (hR.lt (i := 0) (show 0 < 17 by decide)) (hR.at (i := 0) rfl) rfl ?_
  rcases ite_some hr with ⟨h1, hr⟩ | ⟨h1, hr⟩
  · refine x_ct rfl rfl (decide_eq_true h1) ?_
    refine x_b 1 (S2 := (18, [some (.ref b), some (.int x1)], [.int (-1)], H, c, n)) rfl ?_
    refine x_fg (Lq.n (Lq.n Lq.nil)) ?_
    exact j_141_0_j18 hd hR hr kr
  · refine x_cf rfl rfl (decide_eq_false h1) ?_
    refine x_ldan rfl rfl rfl (hR.lt (i := 0) (show 0 < 17 by decide)) ?_
    refine x_getf rfl rfl (hR.lt (i := 0) (show 0 < 17 by decide)) (hR.at (i := 0) rfl) rfl ?_
    refine x_b 1 (S2 := (13, [some (.ref b), some (.int x1)], [.int x1, .ref (b + 1)], H, c, n)) rfl ?_
    obtain ⟨i2, h3, hr⟩ := bd_some hr
    refine x_iald rfl rfl (hR.lt (i := 1) (show 1 < 17 by decide)) (hR.at (i := 1) rfl) h3 ?_
    refine x_b 1 (S2 := (18, [some (.ref b), some (.int x1)], [.int (B.buffer i2)], H, c, n)) rfl ?_
    refine x_fg (Lq.n (Lq.n Lq.nil)) ?_
    exact j_141_0_j18 hd hR hr kr
theorem m_141 {H : AHp} {b : Nat} {B : Md} {x1 : Int32} (hR : Rg H b (Md.cells b B)) {o : Int32} (hr : F_141 B x1 = some o) : Rn 2 141 [.ref b, .int x1] H (.inl (some (.int o)), H, 0, 0) :=
  x_meth (M := am_M141) rfl (show 2 ≤ 2 by decide) (f_141 (Nat.le_refl _) hR hr rfl)
def J_142_0_j17 (t0 : Int32) : Option (Int32) :=
  if t0 = 0 ∨ t0 = 1 then some t0 else none
theorem j_142_0_j17 {d : Nat} (hd : 1 ≤ d) {scr : ASc} {res : ARe} {c n : Nat} {H : AHp} {t0 : Int32} {o : Int32} (hr : J_142_0_j17 t0 = some o) (kr : res = (.inl (some (.int o)), H, c, n)) : Ex d am_M142 scr (17, [none], [.int t0], H, c, n) res := by
  delta J_142_0_j17 at hr
  obtain ⟨h2, hr⟩ := itn_some hr
  cases hr
  rw [kr]
  exact x_ret rfl rfl (am_ret_z h2)
def J_142_0_j16  : Option (Int32) :=
  J_142_0_j17 0
theorem j_142_0_j16 {d : Nat} (hd : 1 ≤ d) {scr : ASc} {res : ARe} {c n : Nat} {H : AHp}  {o : Int32} (hr : J_142_0_j16  = some o) (kr : res = (.inl (some (.int o)), H, c, n)) : Ex d am_M142 scr (16, [none], [], H, c, n) res := by
  delta J_142_0_j16 at hr
  refine x_b 1 (S2 := (17, [none], [.int 0], H, c, n)) rfl ?_
  refine x_fg (Lq.s Lq.nil) ?_
  exact j_142_0_j17 hd hr kr
/-- PebbleProofsModel.isLetter(I)Z -/
def F_142 (x0 : Int32) : Option (Int32) :=
  if x0 < 97 then
    J_142_0_j16 
  else
    if 122 < x0 then
      J_142_0_j16 
    else
      J_142_0_j17 1
theorem f_142 {d : Nat} (hd : 1 ≤ d) {scr : ASc} {res : ARe} {c n : Nat} {H : AHp} {x0 : Int32} {o : Int32} (hr : F_142 x0 = some o) (kr : res = (.inl (some (.int o)), H, c, n)) : Ex d am_M142 scr (0, [some (.int x0)], [], H, c, n) res := by
  delta F_142 at hr
  refine x_b 2 (S2 := (3, [some (.int x0)], [.int 97, .int x0], H, c, n)) rfl ?_
  rcases ite_some hr with ⟨h1, hr⟩ | ⟨h1, hr⟩
  · refine x_ct rfl rfl (decide_eq_true h1) ?_
    refine x_fg (Lq.n Lq.nil) ?_
    exact j_142_0_j16 hd hr kr
  · refine x_cf rfl rfl (decide_eq_false h1) ?_
    refine x_b 2 (S2 := (9, [some (.int x0)], [.int 122, .int x0], H, c, n)) rfl ?_
    rcases ite_some hr with ⟨h3, hr⟩ | ⟨h3, hr⟩
    · refine x_ct rfl rfl (decide_eq_true h3) ?_
      refine x_fg (Lq.n Lq.nil) ?_
      exact j_142_0_j16 hd hr kr
    · refine x_cf rfl rfl (decide_eq_false h3) ?_
      refine x_b 2 (S2 := (17, [some (.int x0)], [.int 1], H, c, n)) rfl ?_
      refine x_fg (Lq.n Lq.nil) ?_
      exact j_142_0_j17 hd hr kr
theorem m_142 {H : AHp} {x0 : Int32} {o : Int32} (hr : F_142 x0 = some o) : Rn 2 142 [.int x0] H (.inl (some (.int o)), H, 0, 0) :=
  x_meth (M := am_M142) rfl (show 1 ≤ 1 by decide) (f_142 (Nat.le_refl _) hr rfl)
def J_143_0_j17 (t0 : Int32) : Option (Int32) :=
  if t0 = 0 ∨ t0 = 1 then some t0 else none
theorem j_143_0_j17 {d : Nat} (hd : 1 ≤ d) {scr : ASc} {res : ARe} {c n : Nat} {H : AHp} {t0 : Int32} {o : Int32} (hr : J_143_0_j17 t0 = some o) (kr : res = (.inl (some (.int o)), H, c, n)) : Ex d am_M143 scr (17, [none], [.int t0], H, c, n) res := by
  delta J_143_0_j17 at hr
  obtain ⟨h2, hr⟩ := itn_some hr
  cases hr
  rw [kr]
  exact x_ret rfl rfl (am_ret_z h2)
def J_143_0_j16  : Option (Int32) :=
  J_143_0_j17 0
theorem j_143_0_j16 {d : Nat} (hd : 1 ≤ d) {scr : ASc} {res : ARe} {c n : Nat} {H : AHp}  {o : Int32} (hr : J_143_0_j16  = some o) (kr : res = (.inl (some (.int o)), H, c, n)) : Ex d am_M143 scr (16, [none], [], H, c, n) res := by
  delta J_143_0_j16 at hr
  refine x_b 1 (S2 := (17, [none], [.int 0], H, c, n)) rfl ?_
  refine x_fg (Lq.s Lq.nil) ?_
  exact j_143_0_j17 hd hr kr
/-- PebbleProofsModel.isDigit(I)Z -/
def F_143 (x0 : Int32) : Option (Int32) :=
  if x0 < 48 then
    J_143_0_j16 
  else
    if 57 < x0 then
      J_143_0_j16 
    else
      J_143_0_j17 1
theorem f_143 {d : Nat} (hd : 1 ≤ d) {scr : ASc} {res : ARe} {c n : Nat} {H : AHp} {x0 : Int32} {o : Int32} (hr : F_143 x0 = some o) (kr : res = (.inl (some (.int o)), H, c, n)) : Ex d am_M143 scr (0, [some (.int x0)], [], H, c, n) res := by
  delta F_143 at hr
  refine x_b 2 (S2 := (3, [some (.int x0)], [.int 48, .int x0], H, c, n)) rfl ?_
  rcases ite_some hr with ⟨h1, hr⟩ | ⟨h1, hr⟩
  · refine x_ct rfl rfl (decide_eq_true h1) ?_
    refine x_fg (Lq.n Lq.nil) ?_
    exact j_143_0_j16 hd hr kr
  · refine x_cf rfl rfl (decide_eq_false h1) ?_
    refine x_b 2 (S2 := (9, [some (.int x0)], [.int 57, .int x0], H, c, n)) rfl ?_
    rcases ite_some hr with ⟨h3, hr⟩ | ⟨h3, hr⟩
    · refine x_ct rfl rfl (decide_eq_true h3) ?_
      refine x_fg (Lq.n Lq.nil) ?_
      exact j_143_0_j16 hd hr kr
    · refine x_cf rfl rfl (decide_eq_false h3) ?_
      refine x_b 2 (S2 := (17, [some (.int x0)], [.int 1], H, c, n)) rfl ?_
      refine x_fg (Lq.n Lq.nil) ?_
      exact j_143_0_j17 hd hr kr
theorem m_143 {H : AHp} {x0 : Int32} {o : Int32} (hr : F_143 x0 = some o) : Rn 2 143 [.int x0] H (.inl (some (.int o)), H, 0, 0) :=
  x_meth (M := am_M143) rfl (show 1 ≤ 1 by decide) (f_143 (Nat.le_refl _) hr rfl)
abbrev P_144_101 (h : AHp) (b : Nat) (c n : Nat)  (s : (Md)) : ASt := (101, [some (.ref b), none], [], (hput h b (Md.cells b s)), c, n)
abbrev PX_144_101 (h : AHp) (b : Nat) (c n : Nat)  (s : (Md)) : ASt := (136, [some (.ref b), none], [], (hput h b (Md.cells b s)), c, n)
def G_144_101  (s : (Md)) : Option (((Md)) ⊕ ((Md))) := 
  match s with
  | B =>
    if ¬ B.kind = 1 then
      some (.inr B)
    else
      (F_141 B B.at).bind fun v22 =>
      (F_142 v22).bind fun v24 =>
      if v24 = 0 then
        some (.inr B)
      else
        (some (B.w_at (B.at + 1))).bind fun B26 =>
        some (.inl B26)
theorem g_144_101 {d : Nat} (hd : 2 ≤ d) {scr : ASc} {res : ARe} {c n : Nat} {h : AHp} {b : Nat} (hb : b + 17 ≤ am_SB) (hh : b + 17 ≤ h.length)  {s : (Md)} {o : ((Md)) ⊕ ((Md))} (hr : G_144_101  s = some o) (ka : ∀ s, o = .inl s → Ex d am_M144 scr (P_144_101 h b c n  s) res) (kx : ∀ s, o = .inr s → Ex d am_M144 scr (PX_144_101 h b c n  s) res) : Ex d am_M144 scr (P_144_101 h b c n  s) res := by
  delta G_144_101 at hr
  show Ex d am_M144 scr (101, [some (.ref b), none], [], (hput h b (Md.cells b s)), c, n) res
  refine x_ldan rfl rfl rfl (h_lt (i := 0) hb (by decide)) ?_
  refine x_getf rfl rfl (h_lt (i := 0) hb (by decide)) (hp_at (i := 0) hh rfl rfl) rfl ?_
  refine x_b 1 (S2 := (106, [some (.ref b), none], [.int 1, .int s.kind], (hput h b (Md.cells b s)), c, n)) rfl ?_
  rcases ite_some hr with ⟨h20, hr⟩ | ⟨h20, hr⟩
  · refine x_ct rfl rfl (decide_eq_true h20) ?_
    refine x_fg (Lq.s (Lq.s Lq.nil)) ?_
    exact kx s (Option.some.inj hr).symm
  · refine x_cf rfl rfl (decide_eq_false h20) ?_
    refine x_ldan rfl rfl rfl (h_lt (i := 0) hb (by decide)) ?_
    refine x_ldan rfl rfl rfl (h_lt (i := 0) hb (by decide)) ?_
    refine x_getf rfl rfl (h_lt (i := 0) hb (by decide)) (hp_at (i := 0) hh rfl rfl) rfl ?_
    obtain ⟨v22, h21, hr⟩ := bd_some hr
    refine x_c0 (m_141 (hp_rg hb hh rfl) h21) rfl rfl rfl rfl (am_recv_v (h_lt (i := 0) hb (by decide)) (hp_at (i := 0) hh rfl rfl) rfl) (by omega) ?_
    obtain ⟨v24, h23, hr⟩ := bd_some hr
    refine x_c0 (m_142 h23) rfl rfl rfl rfl rfl (by omega) ?_
    rcases ite_some hr with ⟨h25, hr⟩ | ⟨h25, hr⟩
    · refine x_zt rfl rfl (decide_eq_true h25) ?_
      refine x_fg (Lq.s (Lq.s Lq.nil)) ?_
      exact kx s (Option.some.inj hr).symm
    · refine x_zf rfl rfl (decide_eq_false h25) ?_
      refine x_ldan rfl rfl rfl (h_lt (i := 0) hb (by decide)) ?_
      refine x_b 1 (S2 := (125, [some (.ref b), none], [.ref b, .ref b], (hput h b (Md.cells b s)), c, n)) rfl ?_
      refine x_getf rfl rfl (h_lt (i := 0) hb (by decide)) (hp_at (i := 0) hh rfl rfl) rfl ?_
      refine x_b 2 (S2 := (130, [some (.ref b), none], [.int (s.at + 1), .ref b], (hput h b (Md.cells b s)), c, n)) rfl ?_
      obtain ⟨B26, h27, hr⟩ := bd_some hr
      refine x_putf (H := (hput h b (Md.cells b B26))) rfl rfl (h_lt (i := 0) hb (by decide)) (hp_at (i := 0) hh rfl rfl) ⟨(show 3 < 28 by decide), rfl, rfl, nofun⟩ (hp_set (i := 0) hh rfl (by decide) (Md.s_at rfl h27)) ?_
      refine x_b 1 (S2 := (101, [some (.ref b), none], [], (hput h b (Md.cells b B26)), c, n)) rfl ?_
      refine x_fg (Lq.s (Lq.s Lq.nil)) ?_
      exact ka B26 (Option.some.inj hr).symm
abbrev P_144_136 (h : AHp) (b : Nat) (c n : Nat)  (s : (Md)) : ASt := (136, [some (.ref b), none], [], (hput h b (Md.cells b s)), c, n)
abbrev PX_144_136 (h : AHp) (b : Nat) (c n : Nat)  (s : (Md)) : ASt := (200, [none, none], [], (hput h b (Md.cells b s)), c, n)
def G_144_136  (s : (Md)) : Option (((Md)) ⊕ ((Md))) := 
  match s with
  | B =>
    if ¬ B.kind = 2 then
      some (.inr B)
    else
      (F_141 B B.at).bind fun v33 =>
      (F_143 v33).bind fun v35 =>
      if v35 = 0 then
        some (.inr B)
      else
        (F_141 B B.at).bind fun v38 =>
        (some (B.w_number (imn 10000 (((10 * B.number) + v38) - 48)))).bind fun B39 =>
        (some (B39.w_at (B39.at + 1))).bind fun B41 =>
        some (.inl B41)
theorem g_144_136 {d : Nat} (hd : 2 ≤ d) {scr : ASc} {res : ARe} {c n : Nat} {h : AHp} {b : Nat} (hb : b + 17 ≤ am_SB) (hh : b + 17 ≤ h.length)  {s : (Md)} {o : ((Md)) ⊕ ((Md))} (hr : G_144_136  s = some o) (ka : ∀ s, o = .inl s → Ex d am_M144 scr (P_144_136 h b c n  s) res) (kx : ∀ s, o = .inr s → Ex d am_M144 scr (PX_144_136 h b c n  s) res) : Ex d am_M144 scr (P_144_136 h b c n  s) res := by
  delta G_144_136 at hr
  show Ex d am_M144 scr (136, [some (.ref b), none], [], (hput h b (Md.cells b s)), c, n) res
  refine x_ldan rfl rfl rfl (h_lt (i := 0) hb (by decide)) ?_
  refine x_getf rfl rfl (h_lt (i := 0) hb (by decide)) (hp_at (i := 0) hh rfl rfl) rfl ?_
  refine x_b 1 (S2 := (141, [some (.ref b), none], [.int 2, .int s.kind], (hput h b (Md.cells b s)), c, n)) rfl ?_
  rcases ite_some hr with ⟨h31, hr⟩ | ⟨h31, hr⟩
  · refine x_ct rfl rfl (decide_eq_true h31) ?_
    refine x_fg (Lq.n (Lq.s Lq.nil)) ?_
    exact kx s (Option.some.inj hr).symm
  · refine x_cf rfl rfl (decide_eq_false h31) ?_
    refine x_ldan rfl rfl rfl (h_lt (i := 0) hb (by decide)) ?_
    refine x_ldan rfl rfl rfl (h_lt (i := 0) hb (by decide)) ?_
    refine x_getf rfl rfl (h_lt (i := 0) hb (by decide)) (hp_at (i := 0) hh rfl rfl) rfl ?_
    obtain ⟨v33, h32, hr⟩ := bd_some hr
    refine x_c0 (m_141 (hp_rg hb hh rfl) h32) rfl rfl rfl rfl (am_recv_v (h_lt (i := 0) hb (by decide)) (hp_at (i := 0) hh rfl rfl) rfl) (by omega) ?_
    obtain ⟨v35, h34, hr⟩ := bd_some hr
    refine x_c0 (m_143 h34) rfl rfl rfl rfl rfl (by omega) ?_
    rcases ite_some hr with ⟨h36, hr⟩ | ⟨h36, hr⟩
    · refine x_zt rfl rfl (decide_eq_true h36) ?_
      refine x_fg (Lq.n (Lq.s Lq.nil)) ?_
      exact kx s (Option.some.inj hr).symm
    · refine x_zf rfl rfl (decide_eq_false h36) ?_
      refine x_ldan rfl rfl rfl (h_lt (i := 0) hb (by decide)) ?_
      refine x_b 2 (S2 := (164, [some (.ref b), none], [.int 10, .int 10000, .ref b], (hput h b (Md.cells b s)), c, n)) rfl ?_
      refine x_ldan rfl rfl rfl (h_lt (i := 0) hb (by decide)) ?_
      refine x_getf rfl rfl (h_lt (i := 0) hb (by decide)) (hp_at (i := 0) hh rfl rfl) rfl ?_
      refine x_b 1 (S2 := (169, [some (.ref b), none], [.int (10 * s.number), .int 10000, .ref b], (hput h b (Md.cells b s)), c, n)) rfl ?_
      refine x_ldan rfl rfl rfl (h_lt (i := 0) hb (by decide)) ?_
      refine x_ldan rfl rfl rfl (h_lt (i := 0) hb (by decide)) ?_
      refine x_getf rfl rfl (h_lt (i := 0) hb (by decide)) (hp_at (i := 0) hh rfl rfl) rfl ?_
      obtain ⟨v38, h37, hr⟩ := bd_some hr
      refine x_c0 (m_141 (hp_rg hb hh rfl) h37) rfl rfl rfl rfl (am_recv_v (h_lt (i := 0) hb (by decide)) (hp_at (i := 0) hh rfl rfl) rfl) (by omega) ?_
      refine x_b 4 (S2 := (184, [some (.ref b), none], [.int (imn 10000 (((10 * s.number) + v38) - 48)), .ref b], (hput h b (Md.cells b s)), c, n)) rfl ?_
      obtain ⟨B39, h40, hr⟩ := bd_some hr
      refine x_putf (H := (hput h b (Md.cells b B39))) rfl rfl (h_lt (i := 0) hb (by decide)) (hp_at (i := 0) hh rfl rfl) ⟨(show 6 < 28 by decide), rfl, rfl, nofun⟩ (hp_set (i := 0) hh rfl (by decide) (Md.s_number rfl h40)) ?_
      refine x_ldan rfl rfl rfl (h_lt (i := 0) hb (by decide)) ?_
      refine x_b 1 (S2 := (189, [some (.ref b), none], [.ref b, .ref b], (hput h b (Md.cells b B39)), c, n)) rfl ?_
      refine x_getf rfl rfl (h_lt (i := 0) hb (by decide)) (hp_at (i := 0) hh rfl rfl) rfl ?_
      refine x_b 2 (S2 := (194, [some (.ref b), none], [.int (B39.at + 1), .ref b], (hput h b (Md.cells b B39)), c, n)) rfl ?_
      obtain ⟨B41, h42, hr⟩ := bd_some hr
      refine x_putf (H := (hput h b (Md.cells b B41))) rfl rfl (h_lt (i := 0) hb (by decide)) (hp_at (i := 0) hh rfl rfl) ⟨(show 3 < 28 by decide), rfl, rfl, nofun⟩ (hp_set (i := 0) hh rfl (by decide) (Md.s_at rfl h42)) ?_
      refine x_b 1 (S2 := (136, [some (.ref b), none], [], (hput h b (Md.cells b B41)), c, n)) rfl ?_
      refine x_fg (Lq.s (Lq.s Lq.nil)) ?_
      exact ka B41 (Option.some.inj hr).symm
def J_144_0_j200 (B : Md) : Option (Md) :=
  some B
theorem j_144_0_j200 {d : Nat} (hd : 2 ≤ d) {scr : ASc} {res : ARe} {c n : Nat} {h : AHp} {b : Nat} (hb : b + 17 ≤ am_SB) (hh : b + 17 ≤ h.length) {B : Md} {o : Md} (hr : J_144_0_j200 B = some o) (kr : res = (.inl (none), hput h b (Md.cells b o), c, n)) : Ex d am_M144 scr (200, [none, none], [], (hput h b (Md.cells b B)), c, n) res := by
  delta J_144_0_j200 at hr
  cases hr
  rw [kr]
  exact x_ret rfl rfl rfl
def J_144_0_j75 (B : Md) (t0 : Int32) : Option (Md) :=
  (some (B.w_kind t0)).bind fun B15 =>
  (some (B15.w_number 0)).bind fun B17 =>
  if ¬ B17.kind = 3 then
    (lw (G_144_101 ) 200000 B17).bind fun B29 =>
    (lw (G_144_136 ) 200000 B29).bind fun B44 =>
    J_144_0_j200 B44
  else
    (some (B17.w_at (B17.at + 1))).bind fun B46 =>
    (lw (G_144_101 ) 200000 B46).bind fun B49 =>
    (lw (G_144_136 ) 200000 B49).bind fun B52 =>
    J_144_0_j200 B52
theorem j_144_0_j75 {d : Nat} (hd : 2 ≤ d) {scr : ASc} {res : ARe} {c n : Nat} {h : AHp} {b : Nat} (hb : b + 17 ≤ am_SB) (hh : b + 17 ≤ h.length) {B : Md} {t0 : Int32} {o : Md} (hr : J_144_0_j75 B t0 = some o) (kr : res = (.inl (none), hput h b (Md.cells b o), c, n)) : Ex d am_M144 scr (75, [some (.ref b), none], [.int t0, .ref b], (hput h b (Md.cells b B)), c, n) res := by
  delta J_144_0_j75 at hr
  obtain ⟨B15, h16, hr⟩ := bd_some hr
  refine x_putf (H := (hput h b (Md.cells b B15))) rfl rfl (h_lt (i := 0) hb (by decide)) (hp_at (i := 0) hh rfl rfl) ⟨(show 5 < 28 by decide), rfl, rfl, nofun⟩ (hp_set (i := 0) hh rfl (by decide) (Md.s_kind rfl h16)) ?_
  refine x_ldan rfl rfl rfl (h_lt (i := 0) hb (by decide)) ?_
  refine x_b 1 (S2 := (80, [some (.ref b), none], [.int 0, .ref b], (hput h b (Md.cells b B15)), c, n)) rfl ?_
  obtain ⟨B17, h18, hr⟩ := bd_some hr
  refine x_putf (H := (hput h b (Md.cells b B17))) rfl rfl (h_lt (i := 0) hb (by decide)) (hp_at (i := 0) hh rfl rfl) ⟨(show 6 < 28 by decide), rfl, rfl, nofun⟩ (hp_set (i := 0) hh rfl (by decide) (Md.s_number rfl h18)) ?_
  refine x_ldan rfl rfl rfl (h_lt (i := 0) hb (by decide)) ?_
  refine x_getf rfl rfl (h_lt (i := 0) hb (by decide)) (hp_at (i := 0) hh rfl rfl) rfl ?_
  refine x_b 1 (S2 := (88, [some (.ref b), none], [.int 3, .int B17.kind], (hput h b (Md.cells b B17)), c, n)) rfl ?_
  rcases ite_some hr with ⟨h19, hr⟩ | ⟨h19, hr⟩
  · refine x_ct rfl rfl (decide_eq_true h19) ?_
    refine x_fg (Lq.s (Lq.s Lq.nil)) ?_
    obtain ⟨B29, h28, hr⟩ := bd_some hr
    refine x_lw (P := P_144_101 h b c n ) (Q := fun x => Ex d am_M144 scr (PX_144_101 h b c n  x) res) (fun s o h1 ka kx => g_144_101 hd hb hh h1 ka kx) _ B17 _ h28 ?_
    show Ex d am_M144 scr (136, [some (.ref b), none], [], (hput h b (Md.cells b B29)), c, n) res
    refine x_fg (Lq.s (Lq.s Lq.nil)) ?_
    obtain ⟨B44, h43, hr⟩ := bd_some hr
    refine x_lw (P := P_144_136 h b c n ) (Q := fun x => Ex d am_M144 scr (PX_144_136 h b c n  x) res) (fun s o h1 ka kx => g_144_136 hd hb hh h1 ka kx) _ B29 _ h43 ?_
    show Ex d am_M144 scr (200, [none, none], [], (hput h b (Md.cells b B44)), c, n) res
    refine x_fg (Lq.s (Lq.s Lq.nil)) ?_
    exact j_144_0_j200 hd hb hh hr kr
  · refine x_cf rfl rfl (decide_eq_false h19) ?_
    refine x_ldan rfl rfl rfl (h_lt (i := 0) hb (by decide)) ?_
    refine x_b 1 (S2 := (93, [some (.ref b), none], [.ref b, .ref b], (hput h b (Md.cells b B17)), c, n)) rfl ?_
    refine x_getf rfl rfl (h_lt (i := 0) hb (by decide)) (hp_at (i := 0) hh rfl rfl) rfl ?_
    refine x_b 2 (S2 := (98, [some (.ref b), none], [.int (B17.at + 1), .ref b], (hput h b (Md.cells b B17)), c, n)) rfl ?_
    obtain ⟨B46, h47, hr⟩ := bd_some hr
    refine x_putf (H := (hput h b (Md.cells b B46))) rfl rfl (h_lt (i := 0) hb (by decide)) (hp_at (i := 0) hh rfl rfl) ⟨(show 3 < 28 by decide), rfl, rfl, nofun⟩ (hp_set (i := 0) hh rfl (by decide) (Md.s_at rfl h47)) ?_
    refine x_fg (Lq.s (Lq.s Lq.nil)) ?_
    obtain ⟨B49, h48, hr⟩ := bd_some hr
    refine x_lw (P := P_144_101 h b c n ) (Q := fun x => Ex d am_M144 scr (PX_144_101 h b c n  x) res) (fun s o h1 ka kx => g_144_101 hd hb hh h1 ka kx) _ B46 _ h48 ?_
    show Ex d am_M144 scr (136, [some (.ref b), none], [], (hput h b (Md.cells b B49)), c, n) res
    refine x_fg (Lq.s (Lq.s Lq.nil)) ?_
    obtain ⟨B52, h51, hr⟩ := bd_some hr
    refine x_lw (P := P_144_136 h b c n ) (Q := fun x => Ex d am_M144 scr (PX_144_136 h b c n  x) res) (fun s o h1 ka kx => g_144_136 hd hb hh h1 ka kx) _ B49 _ h51 ?_
    show Ex d am_M144 scr (200, [none, none], [], (hput h b (Md.cells b B52)), c, n) res
    refine x_fg (Lq.s (Lq.s Lq.nil)) ?_
    exact j_144_0_j200 hd hb hh hr kr
abbrev P_144_0 (h : AHp) (b : Nat) (c n : Nat)  (s : (Md)) : ASt := (0, [some (.ref b), none], [], (hput h b (Md.cells b s)), c, n)
abbrev PX_144_0 (h : AHp) (b : Nat) (c n : Nat)  (s : (Md)) : ASt := (26, [some (.ref b), none], [], (hput h b (Md.cells b s)), c, n)
def G_144_0  (s : (Md)) : Option (((Md)) ⊕ ((Md))) := 
  match s with
  | B =>
    (F_141 B B.at).bind fun v57 =>
    if ¬ v57 = 32 then
      some (.inr B)
    else
      (some (B.w_at (B.at + 1))).bind fun B59 =>
      some (.inl B59)
theorem g_144_0 {d : Nat} (hd : 2 ≤ d) {scr : ASc} {res : ARe} {c n : Nat} {h : AHp} {b : Nat} (hb : b + 17 ≤ am_SB) (hh : b + 17 ≤ h.length)  {s : (Md)} {o : ((Md)) ⊕ ((Md))} (hr : G_144_0  s = some o) (ka : ∀ s, o = .inl s → Ex d am_M144 scr (P_144_0 h b c n  s) res) (kx : ∀ s, o = .inr s → Ex d am_M144 scr (PX_144_0 h b c n  s) res) : Ex d am_M144 scr (P_144_0 h b c n  s) res := by
  delta G_144_0 at hr
  show Ex d am_M144 scr (0, [some (.ref b), none], [], (hput h b (Md.cells b s)), c, n) res
  refine x_ldan rfl rfl rfl (h_lt (i := 0) hb (by decide)) ?_
  refine x_ldan rfl rfl rfl (h_lt (i := 0) hb (by decide)) ?_
  refine x_getf rfl rfl (h_lt (i := 0) hb (by decide)) (hp_at (i := 0) hh rfl rfl) rfl ?_
  obtain ⟨v57, h56, hr⟩ := bd_some hr
  refine x_c0 (m_141 (hp_rg hb hh rfl) h56) rfl rfl rfl rfl (am_recv_v (h_lt (i := 0) hb (by decide)) (hp_at (i := 0) hh rfl rfl) rfl) (by omega) ?_
  refine x_b 1 (S2 := (10, [some (.ref b), none], [.int 32, .int v57], (hput h b (Md.cells b s)), c, n)) rfl ?_
  rcases ite_some hr with ⟨h58, hr⟩ | ⟨h58, hr⟩
  · refine x_ct rfl rfl (decide_eq_true h58) ?_
    refine x_fg (Lq.s (Lq.s Lq.nil)) ?_
    exact kx s (Option.some.inj hr).symm
  · refine x_cf rfl rfl (decide_eq_false h58) ?_
    refine x_ldan rfl rfl rfl (h_lt (i := 0) hb (by decide)) ?_
    refine x_b 1 (S2 := (15, [some (.ref b), none], [.ref b, .ref b], (hput h b (Md.cells b s)), c, n)) rfl ?_
    refine x_getf rfl rfl (h_lt (i := 0) hb (by decide)) (hp_at (i := 0) hh rfl rfl) rfl ?_
    refine x_b 2 (S2 := (20, [some (.ref b), none], [.int (s.at + 1), .ref b], (hput h b (Md.cells b s)), c, n)) rfl ?_
    obtain ⟨B59, h60, hr⟩ := bd_some hr
    refine x_putf (H := (hput h b (Md.cells b B59))) rfl rfl (h_lt (i := 0) hb (by decide)) (hp_at (i := 0) hh rfl rfl) ⟨(show 3 < 28 by decide), rfl, rfl, nofun⟩ (hp_set (i := 0) hh rfl (by decide) (Md.s_at rfl h60)) ?_
    refine x_b 1 (S2 := (0, [some (.ref b), none], [], (hput h b (Md.cells b B59)), c, n)) rfl ?_
    refine x_fg (Lq.s (Lq.s Lq.nil)) ?_
    exact ka B59 (Option.some.inj hr).symm
/-- PebbleProofsModel.step()V -/
def F_144 (B : Md) : Option (Md) :=
  (F_141 B B.at).bind fun v2 =>
  if ¬ v2 = 32 then
    (some (B.w_from_ B.at)).bind fun B4 =>
    (F_141 B4 B4.at).bind fun v7 =>
    if 0 ≤ v7 then
      (F_142 v7).bind fun v10 =>
      if v10 = 0 then
        (F_143 v7).bind fun v13 =>
        if v13 = 0 then
          J_144_0_j75 B4 3
        else
          J_144_0_j75 B4 2
      else
        J_144_0_j75 B4 1
    else
      J_144_0_j75 B4 0
  else
    (some (B.w_at (B.at + 1))).bind fun B54 =>
    (lw (G_144_0 ) 200000 B54).bind fun B62 =>
    (some (B62.w_from_ B62.at)).bind fun B64 =>
    (F_141 B64 B64.at).bind fun v67 =>
    if 0 ≤ v67 then
      (F_142 v67).bind fun v70 =>
      if v70 = 0 then
        (F_143 v67).bind fun v73 =>
        if v73 = 0 then
          J_144_0_j75 B64 3
        else
          J_144_0_j75 B64 2
      else
        J_144_0_j75 B64 1
    else
      J_144_0_j75 B64 0
theorem f_144 {d : Nat} (hd : 2 ≤ d) {scr : ASc} {res : ARe} {c n : Nat} {h : AHp} {b : Nat} (hb : b + 17 ≤ am_SB) (hh : b + 17 ≤ h.length) {B : Md} {o : Md} (hr : F_144 B = some o) (kr : res = (.inl (none), hput h b (Md.cells b o), c, n)) : Ex d am_M144 scr (0, [some (.ref b), none], [], (hput h b (Md.cells b B)), c, n) res := by
  delta F_144 at hr
  refine x_ldan rfl rfl rfl (h_lt (i := 0) hb (by decide)) ?_
  refine x_ldan rfl rfl rfl (h_lt (i := 0) hb (by decide)) ?_
  refine x_getf rfl rfl (h_lt (i := 0) hb (by decide)) (hp_at (i := 0) hh rfl rfl) rfl ?_
  obtain ⟨v2, h1, hr⟩ := bd_some hr
  refine x_c0 (m_141 (hp_rg hb hh rfl) h1) rfl rfl rfl rfl (am_recv_v (h_lt (i := 0) hb (by decide)) (hp_at (i := 0) hh rfl rfl) rfl) (by omega) ?_
  refine x_b 1 (S2 := (10, [some (.ref b), none], [.int 32, .int v2], (hput h b (Md.cells b B)), c, n)) rfl ?_
  rcases ite_some hr with ⟨h3, hr⟩ | ⟨h3, hr⟩
  · refine x_ct rfl rfl (decide_eq_true h3) ?_
    refine x_ldan rfl rfl rfl (h_lt (i := 0) hb (by decide)) ?_
    refine x_ldan rfl rfl rfl (h_lt (i := 0) hb (by decide)) ?_
    refine x_getf rfl rfl (h_lt (i := 0) hb (by decide)) (hp_at (i := 0) hh rfl rfl) rfl ?_
    obtain ⟨B4, h5, hr⟩ := bd_some hr
    refine x_putf (H := (hput h b (Md.cells b B4))) rfl rfl (h_lt (i := 0) hb (by decide)) (hp_at (i := 0) hh rfl rfl) ⟨(show 4 < 28 by decide), rfl, rfl, nofun⟩ (hp_set (i := 0) hh rfl (by decide) (Md.s_from_ rfl h5)) ?_
    refine x_ldan rfl rfl rfl (h_lt (i := 0) hb (by decide)) ?_
    refine x_ldan rfl rfl rfl (h_lt (i := 0) hb (by decide)) ?_
    refine x_getf rfl rfl (h_lt (i := 0) hb (by decide)) (hp_at (i := 0) hh rfl rfl) rfl ?_
    obtain ⟨v7, h6, hr⟩ := bd_some hr
    refine x_c0 (m_141 (hp_rg hb hh rfl) h6) rfl rfl rfl rfl (am_recv_v (h_lt (i := 0) hb (by decide)) (hp_at (i := 0) hh rfl rfl) rfl) (by omega) ?_
    refine x_b 1 (S2 := (43, [some (.ref b), some (.int v7)], [], (hput h b (Md.cells b B4)), c, n)) rfl ?_
    refine x_ldan rfl rfl rfl (h_lt (i := 0) hb (by decide)) ?_
    refine x_b 1 (S2 := (45, [some (.ref b), some (.int v7)], [.int v7, .ref b], (hput h b (Md.cells b B4)), c, n)) rfl ?_
    rcases ite_some hr with ⟨h8, hr⟩ | ⟨h8, hr⟩
    · refine x_zt rfl rfl (decide_eq_true h8) ?_
      refine x_b 1 (S2 := (53, [some (.ref b), some (.int v7)], [.int v7, .ref b], (hput h b (Md.cells b B4)), c, n)) rfl ?_
      obtain ⟨v10, h9, hr⟩ := bd_some hr
      refine x_c0 (m_142 h9) rfl rfl rfl rfl rfl (by omega) ?_
      rcases ite_some hr with ⟨h11, hr⟩ | ⟨h11, hr⟩
      · refine x_zt rfl rfl (decide_eq_true h11) ?_
        refine x_b 1 (S2 := (64, [some (.ref b), some (.int v7)], [.int v7, .ref b], (hput h b (Md.cells b B4)), c, n)) rfl ?_
        obtain ⟨v13, h12, hr⟩ := bd_some hr
        refine x_c0 (m_143 h12) rfl rfl rfl rfl rfl (by omega) ?_
        rcases ite_some hr with ⟨h14, hr⟩ | ⟨h14, hr⟩
        · refine x_zt rfl rfl (decide_eq_true h14) ?_
          refine x_b 1 (S2 := (75, [some (.ref b), some (.int v7)], [.int 3, .ref b], (hput h b (Md.cells b B4)), c, n)) rfl ?_
          refine x_fg (Lq.s (Lq.n Lq.nil)) ?_
          exact j_144_0_j75 hd hb hh hr kr
        · refine x_zf rfl rfl (decide_eq_false h14) ?_
          refine x_b 2 (S2 := (75, [some (.ref b), some (.int v7)], [.int 2, .ref b], (hput h b (Md.cells b B4)), c, n)) rfl ?_
          refine x_fg (Lq.s (Lq.n Lq.nil)) ?_
          exact j_144_0_j75 hd hb hh hr kr
      · refine x_zf rfl rfl (decide_eq_false h11) ?_
        refine x_b 2 (S2 := (75, [some (.ref b), some (.int v7)], [.int 1, .ref b], (hput h b (Md.cells b B4)), c, n)) rfl ?_
        refine x_fg (Lq.s (Lq.n Lq.nil)) ?_
        exact j_144_0_j75 hd hb hh hr kr
    · refine x_zf rfl rfl (decide_eq_false h8) ?_
      refine x_b 2 (S2 := (75, [some (.ref b), some (.int v7)], [.int 0, .ref b], (hput h b (Md.cells b B4)), c, n)) rfl ?_
      refine x_fg (Lq.s (Lq.n Lq.nil)) ?_
      exact j_144_0_j75 hd hb hh hr kr
  · refine x_cf rfl rfl (decide_eq_false h3) ?_
    refine x_ldan rfl rfl rfl (h_lt (i := 0) hb (by decide)) ?_
    refine x_b 1 (S2 := (15, [some (.ref b), none], [.ref b, .ref b], (hput h b (Md.cells b B)), c, n)) rfl ?_
    refine x_getf rfl rfl (h_lt (i := 0) hb (by decide)) (hp_at (i := 0) hh rfl rfl) rfl ?_
    refine x_b 2 (S2 := (20, [some (.ref b), none], [.int (B.at + 1), .ref b], (hput h b (Md.cells b B)), c, n)) rfl ?_
    obtain ⟨B54, h55, hr⟩ := bd_some hr
    refine x_putf (H := (hput h b (Md.cells b B54))) rfl rfl (h_lt (i := 0) hb (by decide)) (hp_at (i := 0) hh rfl rfl) ⟨(show 3 < 28 by decide), rfl, rfl, nofun⟩ (hp_set (i := 0) hh rfl (by decide) (Md.s_at rfl h55)) ?_
    refine x_b 1 (S2 := (0, [some (.ref b), none], [], (hput h b (Md.cells b B54)), c, n)) rfl ?_
    refine x_fg (Lq.s (Lq.s Lq.nil)) ?_
    obtain ⟨B62, h61, hr⟩ := bd_some hr
    refine x_lw (P := P_144_0 h b c n ) (Q := fun x => Ex d am_M144 scr (PX_144_0 h b c n  x) res) (fun s o h1 ka kx => g_144_0 hd hb hh h1 ka kx) _ B54 _ h61 ?_
    show Ex d am_M144 scr (26, [some (.ref b), none], [], (hput h b (Md.cells b B62)), c, n) res
    refine x_ldan rfl rfl rfl (h_lt (i := 0) hb (by decide)) ?_
    refine x_ldan rfl rfl rfl (h_lt (i := 0) hb (by decide)) ?_
    refine x_getf rfl rfl (h_lt (i := 0) hb (by decide)) (hp_at (i := 0) hh rfl rfl) rfl ?_
    obtain ⟨B64, h65, hr⟩ := bd_some hr
    refine x_putf (H := (hput h b (Md.cells b B64))) rfl rfl (h_lt (i := 0) hb (by decide)) (hp_at (i := 0) hh rfl rfl) ⟨(show 4 < 28 by decide), rfl, rfl, nofun⟩ (hp_set (i := 0) hh rfl (by decide) (Md.s_from_ rfl h65)) ?_
    refine x_ldan rfl rfl rfl (h_lt (i := 0) hb (by decide)) ?_
    refine x_ldan rfl rfl rfl (h_lt (i := 0) hb (by decide)) ?_
    refine x_getf rfl rfl (h_lt (i := 0) hb (by decide)) (hp_at (i := 0) hh rfl rfl) rfl ?_
    obtain ⟨v67, h66, hr⟩ := bd_some hr
    refine x_c0 (m_141 (hp_rg hb hh rfl) h66) rfl rfl rfl rfl (am_recv_v (h_lt (i := 0) hb (by decide)) (hp_at (i := 0) hh rfl rfl) rfl) (by omega) ?_
    refine x_b 1 (S2 := (43, [some (.ref b), some (.int v67)], [], (hput h b (Md.cells b B64)), c, n)) rfl ?_
    refine x_ldan rfl rfl rfl (h_lt (i := 0) hb (by decide)) ?_
    refine x_b 1 (S2 := (45, [some (.ref b), some (.int v67)], [.int v67, .ref b], (hput h b (Md.cells b B64)), c, n)) rfl ?_
    rcases ite_some hr with ⟨h68, hr⟩ | ⟨h68, hr⟩
    · refine x_zt rfl rfl (decide_eq_true h68) ?_
      refine x_b 1 (S2 := (53, [some (.ref b), some (.int v67)], [.int v67, .ref b], (hput h b (Md.cells b B64)), c, n)) rfl ?_
      obtain ⟨v70, h69, hr⟩ := bd_some hr
      refine x_c0 (m_142 h69) rfl rfl rfl rfl rfl (by omega) ?_
      rcases ite_some hr with ⟨h71, hr⟩ | ⟨h71, hr⟩
      · refine x_zt rfl rfl (decide_eq_true h71) ?_
        refine x_b 1 (S2 := (64, [some (.ref b), some (.int v67)], [.int v67, .ref b], (hput h b (Md.cells b B64)), c, n)) rfl ?_
        obtain ⟨v73, h72, hr⟩ := bd_some hr
        refine x_c0 (m_143 h72) rfl rfl rfl rfl rfl (by omega) ?_
        rcases ite_some hr with ⟨h74, hr⟩ | ⟨h74, hr⟩
        · refine x_zt rfl rfl (decide_eq_true h74) ?_
          refine x_b 1 (S2 := (75, [some (.ref b), some (.int v67)], [.int 3, .ref b], (hput h b (Md.cells b B64)), c, n)) rfl ?_
          refine x_fg (Lq.s (Lq.n Lq.nil)) ?_
          exact j_144_0_j75 hd hb hh hr kr
        · refine x_zf rfl rfl (decide_eq_false h74) ?_
          refine x_b 2 (S2 := (75, [some (.ref b), some (.int v67)], [.int 2, .ref b], (hput h b (Md.cells b B64)), c, n)) rfl ?_
          refine x_fg (Lq.s (Lq.n Lq.nil)) ?_
          exact j_144_0_j75 hd hb hh hr kr
      · refine x_zf rfl rfl (decide_eq_false h71) ?_
        refine x_b 2 (S2 := (75, [some (.ref b), some (.int v67)], [.int 1, .ref b], (hput h b (Md.cells b B64)), c, n)) rfl ?_
        refine x_fg (Lq.s (Lq.n Lq.nil)) ?_
        exact j_144_0_j75 hd hb hh hr kr
    · refine x_zf rfl rfl (decide_eq_false h68) ?_
      refine x_b 2 (S2 := (75, [some (.ref b), some (.int v67)], [.int 0, .ref b], (hput h b (Md.cells b B64)), c, n)) rfl ?_
      refine x_fg (Lq.s (Lq.n Lq.nil)) ?_
      exact j_144_0_j75 hd hb hh hr kr
theorem m_144 {h : AHp} {b : Nat} (hb : b + 17 ≤ am_SB) (hh : b + 17 ≤ h.length) {B : Md} {o : Md} (hr : F_144 B = some o) : Rn 3 144 [.ref b] (hput h b (Md.cells b B)) (.inl (none), hput h b (Md.cells b o), 0, 0) :=
  x_meth (M := am_M144) rfl (show 1 ≤ 2 by decide) (f_144 (Nat.le_refl _) hb hh hr rfl)
def J_145_0_j19 (B : Md) (t0 : Int32) : Option (Md) :=
  (some (B.w_wrong t0)).bind fun B2 =>
  some B2
theorem j_145_0_j19 {d : Nat} (hd : 1 ≤ d) {scr : ASc} {res : ARe} {c n : Nat} {h : AHp} {b : Nat} (hb : b + 17 ≤ am_SB) (hh : b + 17 ≤ h.length) {B : Md} {t0 : Int32} {o : Md} (hr : J_145_0_j19 B t0 = some o) (kr : res = (.inl (none), hput h b (Md.cells b o), c, n)) : Ex d am_M145 scr (19, [none], [.int t0, .ref b], (hput h b (Md.cells b B)), c, n) res := by
  delta J_145_0_j19 at hr
  obtain ⟨B2, h3, hr⟩ := bd_some hr
  refine x_putf (H := (hput h b (Md.cells b B2))) rfl rfl (h_lt (i := 0) hb (by decide)) (hp_at (i := 0) hh rfl rfl) ⟨(show 7 < 28 by decide), rfl, rfl, nofun⟩ (hp_set (i := 0) hh rfl (by decide) (Md.s_wrong rfl h3)) ?_
  cases hr
  rw [kr]
  exact x_ret rfl rfl rfl
/-- PebbleProofsModel.fail()V -/
def F_145 (B : Md) : Option (Md) :=
  if 0 ≤ B.wrong then
    J_145_0_j19 B B.wrong
  else
    J_145_0_j19 B B.from_
theorem f_145 {d : Nat} (hd : 1 ≤ d) {scr : ASc} {res : ARe} {c n : Nat} {h : AHp} {b : Nat} (hb : b + 17 ≤ am_SB) (hh : b + 17 ≤ h.length) {B : Md} {o : Md} (hr : F_145 B = some o) (kr : res = (.inl (none), hput h b (Md.cells b o), c, n)) : Ex d am_M145 scr (0, [some (.ref b)], [], (hput h b (Md.cells b B)), c, n) res := by
  delta F_145 at hr
  refine x_ldan rfl rfl rfl (h_lt (i := 0) hb (by decide)) ?_
  refine x_ldan rfl rfl rfl (h_lt (i := 0) hb (by decide)) ?_
  refine x_getf rfl rfl (h_lt (i := 0) hb (by decide)) (hp_at (i := 0) hh rfl rfl) rfl ?_
  rcases ite_some hr with ⟨h1, hr⟩ | ⟨h1, hr⟩
  · refine x_zt rfl rfl (decide_eq_true h1) ?_
    refine x_ldan rfl rfl rfl (h_lt (i := 0) hb (by decide)) ?_
    refine x_getf rfl rfl (h_lt (i := 0) hb (by decide)) (hp_at (i := 0) hh rfl rfl) rfl ?_
    refine x_fg (Lq.n Lq.nil) ?_
    exact j_145_0_j19 hd hb hh hr kr
  · refine x_zf rfl rfl (decide_eq_false h1) ?_
    refine x_ldan rfl rfl rfl (h_lt (i := 0) hb (by decide)) ?_
    refine x_getf rfl rfl (h_lt (i := 0) hb (by decide)) (hp_at (i := 0) hh rfl rfl) rfl ?_
    refine x_b 1 (S2 := (19, [some (.ref b)], [.int B.from_, .ref b], (hput h b (Md.cells b B)), c, n)) rfl ?_
    refine x_fg (Lq.n Lq.nil) ?_
    exact j_145_0_j19 hd hb hh hr kr
theorem m_145 {h : AHp} {b : Nat} (hb : b + 17 ≤ am_SB) (hh : b + 17 ≤ h.length) {B : Md} {o : Md} (hr : F_145 B = some o) : Rn 2 145 [.ref b] (hput h b (Md.cells b B)) (.inl (none), hput h b (Md.cells b o), 0, 0) :=
  x_meth (M := am_M145) rfl (show 1 ≤ 1 by decide) (f_145 (Nat.le_refl _) hb hh hr rfl)
def J_146_0_j12 (B : Md) (t0 : Int32) : Option (Int32) :=
  if t0 = 0 ∨ t0 = 1 then some t0 else none
theorem j_146_0_j12 {d : Nat} (hd : 1 ≤ d) {scr : ASc} {res : ARe} {c n : Nat} {H : AHp} {b : Nat} {B : Md} {t0 : Int32} (hR : Rg H b (Md.cells b B)) {o : Int32} (hr : J_146_0_j12 B t0 = some o) (kr : res = (.inl (some (.int o)), H, c, n)) : Ex d am_M146 scr (12, [none], [.int t0], H, c, n) res := by
  delta J_146_0_j12 at hr
  obtain ⟨h2, hr⟩ := itn_some hr
  cases hr
  rw [kr]
  exact x_ret rfl rfl (am_ret_z h2)
/-- PebbleProofsModel.isGood()Z -/
def F_146 (B : Md) : Option (Int32) :=
  if 0 ≤ B.wrong then
    J_146_0_j12 B 0
  else
    J_146_0_j12 B 1
theorem f_146 {d : Nat} (hd : 1 ≤ d) {scr : ASc} {res : ARe} {c n : Nat} {H : AHp} {b : Nat} {B : Md} (hR : Rg H b (Md.cells b B)) {o : Int32} (hr : F_146 B = some o) (kr : res = (.inl (some (.int o)), H, c, n)) : Ex d am_M146 scr (0, [some (.ref b)], [], H, c, n) res := by
  delta F_146 at hr
  refine x_ldan rfl rfl rfl (hR.lt (i := 0) (show 0 < 17 by decide)) ?_
  refine x_getf rfl rfl (hR.lt (i := 0) (show 0 < 17 by decide)) (hR.at (i := 0) rfl) rfl ?_
  rcases ite_some hr with ⟨h1, hr⟩ | ⟨h1, hr⟩
  · refine x_zt rfl rfl (decide_eq_true h1) ?_
    refine x_b 1 (S2 := (12, [some (.ref b)], [.int 0], H, c, n)) rfl ?_
    refine x_fg (Lq.n Lq.nil) ?_
    exact j_146_0_j12 hd hR hr kr
  · refine x_zf rfl rfl (decide_eq_false h1) ?_
    refine x_b 2 (S2 := (12, [some (.ref b)], [.int 1], H, c, n)) rfl ?_
    refine x_fg (Lq.n Lq.nil) ?_
    exact j_146_0_j12 hd hR hr kr
theorem m_146 {H : AHp} {b : Nat} {B : Md} (hR : Rg H b (Md.cells b B)) {o : Int32} (hr : F_146 B = some o) : Rn 2 146 [.ref b] H (.inl (some (.int o)), H, 0, 0) :=
  x_meth (M := am_M146) rfl (show 1 ≤ 1 by decide) (f_146 (Nat.le_refl _) hR hr rfl)
abbrev P_147_39 (H : AHp) (b : Nat) (c n : Nat) (k : Nat) (B : Md) (s : Int32 × Int32) : ASt := (39, [some (.ref b), some (.ref (am_SB + 10 + 2 * k)), some (.int s.1), some (.int s.2)], [], H, c, n)
abbrev PX_147_39 (H : AHp) (b : Nat) (c n : Nat) (k : Nat) (B : Md) (s : Int32) : ASt := (82, [none, none, some (.int s), none], [], H, c, n)
def J_147_39_j75 (k : Nat) (B : Md) (x3 : Int32) (t0 : Int32) : Option ((Int32 × Int32) ⊕ (Int32)) :=
  some (.inl (t0, (x3 + 1)))
theorem j_147_39_j75 {d : Nat} (hd : 6 ≤ d) {scr : ASc} {res : ARe} {c n : Nat} {H : AHp} {b : Nat} {k : Nat} {B : Md} {x3 : Int32} {t0 : Int32} (hk : k < 4) (hR : Rg H b (Md.cells b B)) {o : (Int32 × Int32) ⊕ (Int32)} (hr : J_147_39_j75 k B x3 t0 = some o) (ka : ∀ s, o = .inl s → Ex d am_M147 scr (P_147_39 H b c n k B s) res) (kx : ∀ s, o = .inr s → Ex d am_M147 scr (PX_147_39 H b c n k B s) res) : Ex d am_M147 scr (75, [some (.ref b), some (.ref (am_SB + 10 + 2 * k)), none, some (.int x3)], [.int t0], H, c, n) res := by
  delta J_147_39_j75 at hr
  refine x_b 3 (S2 := (39, [some (.ref b), some (.ref (am_SB + 10 + 2 * k)), some (.int t0), some (.int (x3 + 1))], [], H, c, n)) rfl ?_
  refine x_fg (Lq.s (Lq.s (Lq.s (Lq.s Lq.nil)))) ?_
  exact ka (t0, (x3 + 1)) (Option.some.inj hr).symm
def G_147_39 (k : Nat) (B : Md) (s : Int32 × Int32) : Option ((Int32 × Int32) ⊕ (Int32)) := 
  match s with
  | (x2, x3) =>
    if x2 = 0 then
      some (.inr x2)
    else
      if (Int32.ofNat (am_tx k).length) ≤ x3 then
        some (.inr x2)
      else
        (ix (B.from_ + x3) 400).bind fun i6 =>
        (ix x3 (am_tx k).length).bind fun i8 =>
        if ¬ (B.buffer i6) = ((am_tx k).getD i8 0) then
          J_147_39_j75 k B x3 0
        else
          J_147_39_j75 k B x3 1
theorem g_147_39 {d : Nat} (hd : 6 ≤ d) {scr : ASc} {res : ARe} {c n : Nat} {H : AHp} {b : Nat} {k : Nat} {B : Md} (hk : k < 4) (hR : Rg H b (Md.cells b B)) {s : Int32 × Int32} {o : (Int32 × Int32) ⊕ (Int32)} (hr : G_147_39 k B s = some o) (ka : ∀ s, o = .inl s → Ex d am_M147 scr (P_147_39 H b c n k B s) res) (kx : ∀ s, o = .inr s → Ex d am_M147 scr (PX_147_39 H b c n k B s) res) : Ex d am_M147 scr (P_147_39 H b c n k B s) res := by
  obtain ⟨x2, x3⟩ := s
  delta G_147_39 at hr
  show Ex d am_M147 scr (39, [some (.ref b), some (.ref (am_SB + 10 + 2 * k)), some (.int x2), some (.int x3)], [], H, c, n) res
  refine x_b 1 (S2 := (40, [some (.ref b), some (.ref (am_SB + 10 + 2 * k)), some (.int x2), some (.int x3)], [.int x2], H, c, n)) rfl ?_
  rcases ite_some hr with ⟨h4, hr⟩ | ⟨h4, hr⟩
  · refine x_zt rfl rfl (decide_eq_true h4) ?_
    refine x_fg (Lq.n (Lq.n (Lq.s (Lq.n Lq.nil)))) ?_
    exact kx x2 (Option.some.inj hr).symm
  · refine x_zf rfl rfl (decide_eq_false h4) ?_
    refine x_b 1 (S2 := (44, [some (.ref b), some (.ref (am_SB + 10 + 2 * k)), some (.int x2), some (.int x3)], [.int x3], H, c, n)) rfl ?_
    refine x_ldtn rfl rfl rfl hk ?_
    refine x_c0 (am_txlen k hk) rfl rfl rfl rfl (am_recv_t hk) (by omega) ?_
    rcases ite_some hr with ⟨h5, hr⟩ | ⟨h5, hr⟩
    · refine x_ct rfl rfl (decide_eq_true h5) ?_
      refine x_fg (Lq.n (Lq.n (Lq.s (Lq.n Lq.nil)))) ?_
      exact kx x2 (Option.some.inj hr).symm
    · refine x_cf rfl rfl (decide_eq_false h5) ?_
      refine x_ldan rfl rfl rfl (hR.lt (i := 0) (show 0 < 17 by decide)) ?_
      refine x_getf rfl rfl (hR.lt (i := 0) (show 0 < 17 by decide)) (hR.at (i := 0) rfl) rfl ?_
      refine x_ldan rfl rfl rfl (hR.lt (i := 0) (show 0 < 17 by decide)) ?_
      refine x_getf rfl rfl (hR.lt (i := 0) (show 0 < 17 by decide)) (hR.at (i := 0) rfl) rfl ?_
      refine x_b 2 (S2 := (61, [some (.ref b), some (.ref (am_SB + 10 + 2 * k)), some (.int x2), some (.int x3)], [.int (B.from_ + x3), .ref (b + 1)], H, c, n)) rfl ?_
      obtain ⟨i6, h7, hr⟩ := bd_some hr
      refine x_iald rfl rfl (hR.lt (i := 1) (show 1 < 17 by decide)) (hR.at (i := 1) rfl) h7 ?_
      refine x_ldtn rfl rfl rfl hk ?_
      refine x_b 1 (S2 := (64, [some (.ref b), some (.ref (am_SB + 10 + 2 * k)), some (.int x2), some (.int x3)], [.int x3, .ref (am_SB + 10 + 2 * k), .int (B.buffer i6)], H, c, n)) rfl ?_
      obtain ⟨i8, h9, hr⟩ := bd_some hr
      refine x_c0 (am_chr hk h9) rfl rfl rfl rfl (am_recv_t hk) (by omega) ?_
      rcases ite_some hr with ⟨h10, hr⟩ | ⟨h10, hr⟩
      · refine x_ct rfl rfl (decide_eq_true h10) ?_
        refine x_b 1 (S2 := (75, [some (.ref b), some (.ref (am_SB + 10 + 2 * k)), some (.int x2), some (.int x3)], [.int 0], H, c, n)) rfl ?_
        refine x_fg (Lq.s (Lq.s (Lq.n (Lq.s Lq.nil)))) ?_
        exact j_147_39_j75 hd hk hR hr ka kx
      · refine x_cf rfl rfl (decide_eq_false h10) ?_
        refine x_b 2 (S2 := (75, [some (.ref b), some (.ref (am_SB + 10 + 2 * k)), some (.int x2), some (.int x3)], [.int 1], H, c, n)) rfl ?_
        refine x_fg (Lq.s (Lq.s (Lq.n (Lq.s Lq.nil)))) ?_
        exact j_147_39_j75 hd hk hR hr ka kx
def J_147_0_j82 (k : Nat) (B : Md) (x2 : Int32) : Option (Int32) :=
  if x2 = 0 ∨ x2 = 1 then some x2 else none
theorem j_147_0_j82 {d : Nat} (hd : 6 ≤ d) {scr : ASc} {res : ARe} {c n : Nat} {H : AHp} {b : Nat} {k : Nat} {B : Md} {x2 : Int32} (hk : k < 4) (hR : Rg H b (Md.cells b B)) {o : Int32} (hr : J_147_0_j82 k B x2 = some o) (kr : res = (.inl (some (.int o)), H, c, n)) : Ex d am_M147 scr (82, [none, none, some (.int x2), none], [], H, c, n) res := by
  delta J_147_0_j82 at hr
  refine x_b 1 (S2 := (83, [none, none, some (.int x2), none], [.int x2], H, c, n)) rfl ?_
  obtain ⟨h14, hr⟩ := itn_some hr
  cases hr
  rw [kr]
  exact x_ret rfl rfl (am_ret_z h14)
def J_147_0_j36 (k : Nat) (B : Md) (t0 : Int32) : Option (Int32) :=
  (lw (G_147_39 k B) 200000 (t0, 0)).bind fun v12 =>
  J_147_0_j82 k B v12
theorem j_147_0_j36 {d : Nat} (hd : 6 ≤ d) {scr : ASc} {res : ARe} {c n : Nat} {H : AHp} {b : Nat} {k : Nat} {B : Md} {t0 : Int32} (hk : k < 4) (hR : Rg H b (Md.cells b B)) {o : Int32} (hr : J_147_0_j36 k B t0 = some o) (kr : res = (.inl (some (.int o)), H, c, n)) : Ex d am_M147 scr (36, [some (.ref b), some (.ref (am_SB + 10 + 2 * k)), none, none], [.int t0], H, c, n) res := by
  delta J_147_0_j36 at hr
  refine x_b 3 (S2 := (39, [some (.ref b), some (.ref (am_SB + 10 + 2 * k)), some (.int t0), some (.int 0)], [], H, c, n)) rfl ?_
  refine x_fg (Lq.s (Lq.s (Lq.s (Lq.s Lq.nil)))) ?_
  obtain ⟨v12, h11, hr⟩ := bd_some hr
  refine x_lw (P := P_147_39 H b c n k B) (Q := fun x => Ex d am_M147 scr (PX_147_39 H b c n k B x) res) (fun s o h1 ka kx => g_147_39 hd hk hR h1 ka kx) _ (t0, 0) _ h11 ?_
  show Ex d am_M147 scr (82, [none, none, some (.int v12), none], [], H, c, n) res
  refine x_fg (Lq.s (Lq.s (Lq.s (Lq.s Lq.nil)))) ?_
  exact j_147_0_j82 hd hk hR hr kr
def J_147_0_j35 (k : Nat) (B : Md) : Option (Int32) :=
  J_147_0_j36 k B 0
theorem j_147_0_j35 {d : Nat} (hd : 6 ≤ d) {scr : ASc} {res : ARe} {c n : Nat} {H : AHp} {b : Nat} {k : Nat} {B : Md} (hk : k < 4) (hR : Rg H b (Md.cells b B)) {o : Int32} (hr : J_147_0_j35 k B = some o) (kr : res = (.inl (some (.int o)), H, c, n)) : Ex d am_M147 scr (35, [some (.ref b), some (.ref (am_SB + 10 + 2 * k)), none, none], [], H, c, n) res := by
  delta J_147_0_j35 at hr
  refine x_b 1 (S2 := (36, [some (.ref b), some (.ref (am_SB + 10 + 2 * k)), none, none], [.int 0], H, c, n)) rfl ?_
  refine x_fg (Lq.s (Lq.s (Lq.s (Lq.s Lq.nil)))) ?_
  exact j_147_0_j36 hd hk hR hr kr
/-- PebbleProofsModel.isWord(Ljava/lang/String;)Z -/
def F_147 (B : Md) (k : Nat) : Option (Int32) :=
  (F_146 B).bind fun v2 =>
  if v2 = 0 then
    J_147_0_j35 k B
  else
    if ¬ B.kind = 1 then
      J_147_0_j35 k B
    else
      if ¬ (B.at - B.from_) = (Int32.ofNat (am_tx k).length) then
        J_147_0_j35 k B
      else
        J_147_0_j36 k B 1
theorem f_147 {d : Nat} (hd : 6 ≤ d) {scr : ASc} {res : ARe} {c n : Nat} {H : AHp} {b : Nat} {B : Md} {k : Nat} (hk : k < 4) (hR : Rg H b (Md.cells b B)) {o : Int32} (hr : F_147 B k = some o) (kr : res = (.inl (some (.int o)), H, c, n)) : Ex d am_M147 scr (0, [some (.ref b), some (.ref (am_SB + 10 + 2 * k)), none, none], [], H, c, n) res := by
  delta F_147 at hr
  refine x_ldan rfl rfl rfl (hR.lt (i := 0) (show 0 < 17 by decide)) ?_
  obtain ⟨v2, h1, hr⟩ := bd_some hr
  refine x_c0 (m_146 hR h1) rfl rfl rfl rfl (am_recv_v (hR.lt (i := 0) (show 0 < 17 by decide)) (hR.at (i := 0) rfl) rfl) (by omega) ?_
  rcases ite_some hr with ⟨h3, hr⟩ | ⟨h3, hr⟩
  · refine x_zt rfl rfl (decide_eq_true h3) ?_
    refine x_fg (Lq.s (Lq.s (Lq.s (Lq.s Lq.nil)))) ?_
    exact j_147_0_j35 hd hk hR hr kr
  · refine x_zf rfl rfl (decide_eq_false h3) ?_
    refine x_ldan rfl rfl rfl (hR.lt (i := 0) (show 0 < 17 by decide)) ?_
    refine x_getf rfl rfl (hR.lt (i := 0) (show 0 < 17 by decide)) (hR.at (i := 0) rfl) rfl ?_
    refine x_b 1 (S2 := (12, [some (.ref b), some (.ref (am_SB + 10 + 2 * k)), none, none], [.int 1, .int B.kind], H, c, n)) rfl ?_
    rcases ite_some hr with ⟨h15, hr⟩ | ⟨h15, hr⟩
    · refine x_ct rfl rfl (decide_eq_true h15) ?_
      refine x_fg (Lq.s (Lq.s (Lq.s (Lq.s Lq.nil)))) ?_
      exact j_147_0_j35 hd hk hR hr kr
    · refine x_cf rfl rfl (decide_eq_false h15) ?_
      refine x_ldan rfl rfl rfl (hR.lt (i := 0) (show 0 < 17 by decide)) ?_
      refine x_getf rfl rfl (hR.lt (i := 0) (show 0 < 17 by decide)) (hR.at (i := 0) rfl) rfl ?_
      refine x_ldan rfl rfl rfl (hR.lt (i := 0) (show 0 < 17 by decide)) ?_
      refine x_getf rfl rfl (hR.lt (i := 0) (show 0 < 17 by decide)) (hR.at (i := 0) rfl) rfl ?_
      refine x_b 1 (S2 := (24, [some (.ref b), some (.ref (am_SB + 10 + 2 * k)), none, none], [.int (B.at - B.from_)], H, c, n)) rfl ?_
      refine x_ldtn rfl rfl rfl hk ?_
      refine x_c0 (am_txlen k hk) rfl rfl rfl rfl (am_recv_t hk) (by omega) ?_
      rcases ite_some hr with ⟨h16, hr⟩ | ⟨h16, hr⟩
      · refine x_ct rfl rfl (decide_eq_true h16) ?_
        refine x_fg (Lq.s (Lq.s (Lq.s (Lq.s Lq.nil)))) ?_
        exact j_147_0_j35 hd hk hR hr kr
      · refine x_cf rfl rfl (decide_eq_false h16) ?_
        refine x_b 2 (S2 := (36, [some (.ref b), some (.ref (am_SB + 10 + 2 * k)), none, none], [.int 1], H, c, n)) rfl ?_
        refine x_fg (Lq.s (Lq.s (Lq.s (Lq.s Lq.nil)))) ?_
        exact j_147_0_j36 hd hk hR hr kr
theorem m_147 {H : AHp} {b : Nat} {B : Md} {k : Nat} (hk : k < 4) (hR : Rg H b (Md.cells b B)) {o : Int32} (hr : F_147 B k = some o) : Rn 7 147 [.ref b, .ref (am_SB + 10 + 2 * k)] H (.inl (some (.int o)), H, 0, 0) :=
  x_meth (M := am_M147) rfl (show 2 ≤ 4 by decide) (f_147 (Nat.le_refl _) hk hR hr rfl)
def J_148_0_j48 (B : Md) (t0 : Int32) : Option (Int32) :=
  if t0 = 0 ∨ t0 = 1 then some t0 else none
theorem j_148_0_j48 {d : Nat} (hd : 2 ≤ d) {scr : ASc} {res : ARe} {c n : Nat} {H : AHp} {b : Nat} {B : Md} {t0 : Int32} (hR : Rg H b (Md.cells b B)) {o : Int32} (hr : J_148_0_j48 B t0 = some o) (kr : res = (.inl (some (.int o)), H, c, n)) : Ex d am_M148 scr (48, [none, none, none], [.int t0], H, c, n) res := by
  delta J_148_0_j48 at hr
  obtain ⟨h4, hr⟩ := itn_some hr
  cases hr
  rw [kr]
  exact x_ret rfl rfl (am_ret_z h4)
def J_148_0_j47 (B : Md) : Option (Int32) :=
  J_148_0_j48 B 0
theorem j_148_0_j47 {d : Nat} (hd : 2 ≤ d) {scr : ASc} {res : ARe} {c n : Nat} {H : AHp} {b : Nat} {B : Md} (hR : Rg H b (Md.cells b B)) {o : Int32} (hr : J_148_0_j47 B = some o) (kr : res = (.inl (some (.int o)), H, c, n)) : Ex d am_M148 scr (47, [none, none, none], [], H, c, n) res := by
  delta J_148_0_j47 at hr
  refine x_b 1 (S2 := (48, [none, none, none], [.int 0], H, c, n)) rfl ?_
  refine x_fg (Lq.s (Lq.s (Lq.s Lq.nil))) ?_
  exact j_148_0_j48 hd hR hr kr
/-- PebbleProofsModel.isNumber(II)Z -/
def F_148 (B : Md) (x1 : Int32) (x2 : Int32) : Option (Int32) :=
  (F_146 B).bind fun v2 =>
  if v2 = 0 then
    J_148_0_j47 B
  else
    if ¬ B.kind = 2 then
      J_148_0_j47 B
    else
      if 3 < (B.at - B.from_) then
        J_148_0_j47 B
      else
        (F_134 B.number.toInt64 x1.toInt64 x2.toInt64).bind fun v8 =>
        if v8 = 0 then
          J_148_0_j47 B
        else
          J_148_0_j48 B 1
theorem f_148 {d : Nat} (hd : 2 ≤ d) {scr : ASc} {res : ARe} {c n : Nat} {H : AHp} {b : Nat} {B : Md} {x1 : Int32} {x2 : Int32} (hR : Rg H b (Md.cells b B)) {o : Int32} (hr : F_148 B x1 x2 = some o) (kr : res = (.inl (some (.int o)), H, c, n)) : Ex d am_M148 scr (0, [some (.ref b), some (.int x1), some (.int x2)], [], H, c, n) res := by
  delta F_148 at hr
  refine x_ldan rfl rfl rfl (hR.lt (i := 0) (show 0 < 17 by decide)) ?_
  obtain ⟨v2, h1, hr⟩ := bd_some hr
  refine x_c0 (m_146 hR h1) rfl rfl rfl rfl (am_recv_v (hR.lt (i := 0) (show 0 < 17 by decide)) (hR.at (i := 0) rfl) rfl) (by omega) ?_
  rcases ite_some hr with ⟨h3, hr⟩ | ⟨h3, hr⟩
  · refine x_zt rfl rfl (decide_eq_true h3) ?_
    refine x_fg (Lq.n (Lq.n (Lq.n Lq.nil))) ?_
    exact j_148_0_j47 hd hR hr kr
  · refine x_zf rfl rfl (decide_eq_false h3) ?_
    refine x_ldan rfl rfl rfl (hR.lt (i := 0) (show 0 < 17 by decide)) ?_
    refine x_getf rfl rfl (hR.lt (i := 0) (show 0 < 17 by decide)) (hR.at (i := 0) rfl) rfl ?_
    refine x_b 1 (S2 := (12, [some (.ref b), some (.int x1), some (.int x2)], [.int 2, .int B.kind], H, c, n)) rfl ?_
    rcases ite_some hr with ⟨h5, hr⟩ | ⟨h5, hr⟩
    · refine x_ct rfl rfl (decide_eq_true h5) ?_
      refine x_fg (Lq.n (Lq.n (Lq.n Lq.nil))) ?_
      exact j_148_0_j47 hd hR hr kr
    · refine x_cf rfl rfl (decide_eq_false h5) ?_
      refine x_ldan rfl rfl rfl (hR.lt (i := 0) (show 0 < 17 by decide)) ?_
      refine x_getf rfl rfl (hR.lt (i := 0) (show 0 < 17 by decide)) (hR.at (i := 0) rfl) rfl ?_
      refine x_ldan rfl rfl rfl (hR.lt (i := 0) (show 0 < 17 by decide)) ?_
      refine x_getf rfl rfl (hR.lt (i := 0) (show 0 < 17 by decide)) (hR.at (i := 0) rfl) rfl ?_
      refine x_b 2 (S2 := (25, [some (.ref b), some (.int x1), some (.int x2)], [.int 3, .int (B.at - B.from_)], H, c, n)) rfl ?_
      rcases ite_some hr with ⟨h6, hr⟩ | ⟨h6, hr⟩
      · refine x_ct rfl rfl (decide_eq_true h6) ?_
        refine x_fg (Lq.n (Lq.n (Lq.n Lq.nil))) ?_
        exact j_148_0_j47 hd hR hr kr
      · refine x_cf rfl rfl (decide_eq_false h6) ?_
        refine x_ldan rfl rfl rfl (hR.lt (i := 0) (show 0 < 17 by decide)) ?_
        refine x_getf rfl rfl (hR.lt (i := 0) (show 0 < 17 by decide)) (hR.at (i := 0) rfl) rfl ?_
        refine x_b 5 (S2 := (37, [some (.ref b), some (.int x1), some (.int x2)], [.long x2.toInt64, .long x1.toInt64, .long B.number.toInt64], H, c, n)) rfl ?_
        obtain ⟨v8, h7, hr⟩ := bd_some hr
        refine x_c0 (m_134 h7) rfl rfl rfl rfl rfl (by omega) ?_
        rcases ite_some hr with ⟨h9, hr⟩ | ⟨h9, hr⟩
        · refine x_zt rfl rfl (decide_eq_true h9) ?_
          refine x_fg (Lq.n (Lq.n (Lq.n Lq.nil))) ?_
          exact j_148_0_j47 hd hR hr kr
        · refine x_zf rfl rfl (decide_eq_false h9) ?_
          refine x_b 2 (S2 := (48, [some (.ref b), some (.int x1), some (.int x2)], [.int 1], H, c, n)) rfl ?_
          refine x_fg (Lq.n (Lq.n (Lq.n Lq.nil))) ?_
          exact j_148_0_j48 hd hR hr kr
theorem m_148 {H : AHp} {b : Nat} {B : Md} {x1 : Int32} {x2 : Int32} (hR : Rg H b (Md.cells b B)) {o : Int32} (hr : F_148 B x1 x2 = some o) : Rn 3 148 [.ref b, .int x1, .int x2] H (.inl (some (.int o)), H, 0, 0) :=
  x_meth (M := am_M148) rfl (show 3 ≤ 3 by decide) (f_148 (Nat.le_refl _) hR hr rfl)
/-- PebbleProofsModel.takeNumber(II)I -/
def F_149 (B : Md) (x1 : Int32) (x2 : Int32) : Option (Int32 × (Md)) :=
  (F_148 B x1 x2).bind fun v2 =>
  if ¬ v2 = 0 then
    (F_144 B).bind fun B5 =>
    some (B.number, B5)
  else
    (F_145 B).bind fun B7 =>
    some (x1, B7)
theorem f_149 {d : Nat} (hd : 3 ≤ d) {scr : ASc} {res : ARe} {c n : Nat} {h : AHp} {b : Nat} (hb : b + 17 ≤ am_SB) (hh : b + 17 ≤ h.length) {B : Md} {x1 : Int32} {x2 : Int32} {o : Int32 × (Md)} (hr : F_149 B x1 x2 = some o) (kr : res = (.inl (some (.int o.1)), hput h b (Md.cells b o.2), c, n)) : Ex d am_M149 scr (0, [some (.ref b), some (.int x1), some (.int x2), none], [], (hput h b (Md.cells b B)), c, n) res := by
  delta F_149 at hr
  refine x_ldan rfl rfl rfl (h_lt (i := 0) hb (by decide)) ?_
  refine x_b 2 (S2 := (3, [some (.ref b), some (.int x1), some (.int x2), none], [.int x2, .int x1, .ref b], (hput h b (Md.cells b B)), c, n)) rfl ?_
  obtain ⟨v2, h1, hr⟩ := bd_some hr
  refine x_c0 (m_148 (hp_rg hb hh rfl) h1) rfl rfl rfl rfl (am_recv_v (h_lt (i := 0) hb (by decide)) (hp_at (i := 0) hh rfl rfl) rfl) (by omega) ?_
  rcases ite_some hr with ⟨h3, hr⟩ | ⟨h3, hr⟩
  · refine x_zt rfl rfl (decide_eq_true h3) ?_
    refine x_ldan rfl rfl rfl (h_lt (i := 0) hb (by decide)) ?_
    refine x_getf rfl rfl (h_lt (i := 0) hb (by decide)) (hp_at (i := 0) hh rfl rfl) rfl ?_
    refine x_b 1 (S2 := (20, [some (.ref b), some (.int x1), some (.int x2), some (.int B.number)], [], (hput h b (Md.cells b B)), c, n)) rfl ?_
    refine x_ldan rfl rfl rfl (h_lt (i := 0) hb (by decide)) ?_
    obtain ⟨B5, h4, hr⟩ := bd_some hr
    refine x_c0 (m_144 hb hh h4) rfl rfl rfl rfl (am_recv_v (h_lt (i := 0) hb (by decide)) (hp_at (i := 0) hh rfl rfl) rfl) (by omega) ?_
    refine x_b 1 (S2 := (25, [some (.ref b), some (.int x1), some (.int x2), some (.int B.number)], [.int B.number], (hput h b (Md.cells b B5)), c, n)) rfl ?_
    cases hr
    rw [kr]
    exact x_ret rfl rfl am_ret_i
  · refine x_zf rfl rfl (decide_eq_false h3) ?_
    refine x_ldan rfl rfl rfl (h_lt (i := 0) hb (by decide)) ?_
    obtain ⟨B7, h6, hr⟩ := bd_some hr
    refine x_c0 (m_145 hb hh h6) rfl rfl rfl rfl (am_recv_v (h_lt (i := 0) hb (by decide)) (hp_at (i := 0) hh rfl rfl) rfl) (by omega) ?_
    refine x_b 1 (S2 := (14, [some (.ref b), some (.int x1), some (.int x2), none], [.int x1], (hput h b (Md.cells b B7)), c, n)) rfl ?_
    cases hr
    rw [kr]
    exact x_ret rfl rfl am_ret_i
theorem m_149 {h : AHp} {b : Nat} (hb : b + 17 ≤ am_SB) (hh : b + 17 ≤ h.length) {B : Md} {x1 : Int32} {x2 : Int32} {o : Int32 × (Md)} (hr : F_149 B x1 x2 = some o) : Rn 4 149 [.ref b, .int x1, .int x2] (hput h b (Md.cells b B)) (.inl (some (.int o.1)), hput h b (Md.cells b o.2), 0, 0) :=
  x_meth (M := am_M149) rfl (show 3 ≤ 4 by decide) (f_149 (Nat.le_refl _) hb hh hr rfl)
abbrev P_150_2 (h : AHp) (b : Nat) (c n : Nat)  (s : Int32 × (Md)) : ASt := (2, [some (.ref b), some (.int s.1)], [], (hput h b (Md.cells b s.2)), c, n)
abbrev PX_150_2 (h : AHp) (b : Nat) (c n : Nat)  (s : (Md)) : ASt := (21, [some (.ref b), none], [], (hput h b (Md.cells b s)), c, n)
def G_150_2  (s : Int32 × (Md)) : Option ((Int32 × (Md)) ⊕ ((Md))) := 
  match s with
  | (x1, B) =>
    if 93 ≤ x1 then
      some (.inr B)
    else
      (ix x1 93).bind fun i2 =>
      (some (B.w_read (upd B.read i2 0))).bind fun B4 =>
      some (.inl ((x1 + 1), B4))
theorem g_150_2 {d : Nat} (hd : 1 ≤ d) {scr : ASc} {res : ARe} {c n : Nat} {h : AHp} {b : Nat} (hb : b + 17 ≤ am_SB) (hh : b + 17 ≤ h.length)  {s : Int32 × (Md)} {o : (Int32 × (Md)) ⊕ ((Md))} (hr : G_150_2  s = some o) (ka : ∀ s, o = .inl s → Ex d am_M150 scr (P_150_2 h b c n  s) res) (kx : ∀ s, o = .inr s → Ex d am_M150 scr (PX_150_2 h b c n  s) res) : Ex d am_M150 scr (P_150_2 h b c n  s) res := by
  obtain ⟨x1, B⟩ := s
  delta G_150_2 at hr
  show Ex d am_M150 scr (2, [some (.ref b), some (.int x1)], [], (hput h b (Md.cells b B)), c, n) res
  refine x_b 2 (S2 := (5, [some (.ref b), some (.int x1)], [.int 93, .int x1], (hput h b (Md.cells b B)), c, n)) rfl ?_
  rcases ite_some hr with ⟨h1, hr⟩ | ⟨h1, hr⟩
  · refine x_ct rfl rfl (decide_eq_true h1) ?_
    refine x_fg (Lq.s (Lq.n Lq.nil)) ?_
    exact kx B (Option.some.inj hr).symm
  · refine x_cf rfl rfl (decide_eq_false h1) ?_
    refine x_ldan rfl rfl rfl (h_lt (i := 0) hb (by decide)) ?_
    refine x_getf rfl rfl (h_lt (i := 0) hb (by decide)) (hp_at (i := 0) hh rfl rfl) rfl ?_
    refine x_b 2 (S2 := (14, [some (.ref b), some (.int x1)], [.int 0, .int x1, .ref (b + 2)], (hput h b (Md.cells b B)), c, n)) rfl ?_
    obtain ⟨i2, h3, hr⟩ := bd_some hr
    obtain ⟨B4, h5, hr⟩ := bd_some hr
    refine x_iast (H := (hput h b (Md.cells b B4))) rfl rfl (h_lt (i := 2) hb (by decide)) (hp_at (i := 2) hh rfl rfl) h3 (hp_set (i := 2) hh rfl (by decide) (Md.s_read h5)) ?_
    refine x_b 2 (S2 := (2, [some (.ref b), some (.int (x1 + 1))], [], (hput h b (Md.cells b B4)), c, n)) rfl ?_
    refine x_fg (Lq.s (Lq.s Lq.nil)) ?_
    exact ka ((x1 + 1), B4) (Option.some.inj hr).symm
/-- PebbleProofsModel.begin()V -/
def F_150 (B : Md) : Option (Md) :=
  (lw (G_150_2 ) 200000 (0, B)).bind fun B7 =>
  (ix 0 93).bind fun i9 =>
  (some (B7.w_read (upd B7.read i9 1))).bind fun B11 =>
  some B11
theorem f_150 {d : Nat} (hd : 1 ≤ d) {scr : ASc} {res : ARe} {c n : Nat} {h : AHp} {b : Nat} (hb : b + 17 ≤ am_SB) (hh : b + 17 ≤ h.length) {B : Md} {o : Md} (hr : F_150 B = some o) (kr : res = (.inl (none), hput h b (Md.cells b o), c, n)) : Ex d am_M150 scr (0, [some (.ref b), none], [], (hput h b (Md.cells b B)), c, n) res := by
  delta F_150 at hr
  refine x_b 2 (S2 := (2, [some (.ref b), some (.int 0)], [], (hput h b (Md.cells b B)), c, n)) rfl ?_
  refine x_fg (Lq.s (Lq.s Lq.nil)) ?_
  obtain ⟨B7, h6, hr⟩ := bd_some hr
  refine x_lw (P := P_150_2 h b c n ) (Q := fun x => Ex d am_M150 scr (PX_150_2 h b c n  x) res) (fun s o h1 ka kx => g_150_2 hd hb hh h1 ka kx) _ (0, B) _ h6 ?_
  show Ex d am_M150 scr (21, [some (.ref b), none], [], (hput h b (Md.cells b B7)), c, n) res
  refine x_ldan rfl rfl rfl (h_lt (i := 0) hb (by decide)) ?_
  refine x_getf rfl rfl (h_lt (i := 0) hb (by decide)) (hp_at (i := 0) hh rfl rfl) rfl ?_
  refine x_b 2 (S2 := (27, [some (.ref b), none], [.int 1, .int 0, .ref (b + 2)], (hput h b (Md.cells b B7)), c, n)) rfl ?_
  obtain ⟨i9, h10, hr⟩ := bd_some hr
  obtain ⟨B11, h12, hr⟩ := bd_some hr
  refine x_iast (H := (hput h b (Md.cells b B11))) rfl rfl (h_lt (i := 2) hb (by decide)) (hp_at (i := 2) hh rfl rfl) h10 (hp_set (i := 2) hh rfl (by decide) (Md.s_read h12)) ?_
  cases hr
  rw [kr]
  exact x_ret rfl rfl rfl
theorem m_150 {h : AHp} {b : Nat} (hb : b + 17 ≤ am_SB) (hh : b + 17 ≤ h.length) {B : Md} {o : Md} (hr : F_150 B = some o) : Rn 2 150 [.ref b] (hput h b (Md.cells b B)) (.inl (none), hput h b (Md.cells b o), 0, 0) :=
  x_meth (M := am_M150) rfl (show 1 ≤ 2 by decide) (f_150 (Nat.le_refl _) hb hh hr rfl)
/-- PebbleProofsModel.readEdge(II)V -/
def F_151 (B : Md) (x1 : Int32) (x2 : Int32) : Option (Md) :=
  (ix (1 + x1) 93).bind fun i1 =>
  (some (B.w_read (upd B.read i1 ((B.read i1) ||| (1 <<< (x2 &&& 31)))))).bind fun B3 =>
  (ix (1 + x2) 93).bind fun i5 =>
  (some (B3.w_read (upd B3.read i5 ((B3.read i5) ||| (1 <<< (x1 &&& 31)))))).bind fun B7 =>
  some B7
theorem f_151 {d : Nat} (hd : 1 ≤ d) {scr : ASc} {res : ARe} {c n : Nat} {h : AHp} {b : Nat} (hb : b + 17 ≤ am_SB) (hh : b + 17 ≤ h.length) {B : Md} {x1 : Int32} {x2 : Int32} {o : Md} (hr : F_151 B x1 x2 = some o) (kr : res = (.inl (none), hput h b (Md.cells b o), c, n)) : Ex d am_M151 scr (0, [some (.ref b), some (.int x1), some (.int x2)], [], (hput h b (Md.cells b B)), c, n) res := by
  delta F_151 at hr
  refine x_ldan rfl rfl rfl (h_lt (i := 0) hb (by decide)) ?_
  refine x_getf rfl rfl (h_lt (i := 0) hb (by decide)) (hp_at (i := 0) hh rfl rfl) rfl ?_
  refine x_b 4 (S2 := (8, [some (.ref b), some (.int x1), some (.int x2)], [.int (1 + x1), .ref (b + 2), .int (1 + x1), .ref (b + 2)], (hput h b (Md.cells b B)), c, n)) rfl ?_
  obtain ⟨i1, h2, hr⟩ := bd_some hr
  refine x_iald rfl rfl (h_lt (i := 2) hb (by decide)) (hp_at (i := 2) hh rfl rfl) h2 ?_
  refine x_b 4 (S2 := (13, [some (.ref b), some (.int x1), some (.int x2)], [.int ((B.read i1) ||| (1 <<< (x2 &&& 31))), .int (1 + x1), .ref (b + 2)], (hput h b (Md.cells b B)), c, n)) rfl ?_
  obtain ⟨B3, h4, hr⟩ := bd_some hr
  refine x_iast (H := (hput h b (Md.cells b B3))) rfl rfl (h_lt (i := 2) hb (by decide)) (hp_at (i := 2) hh rfl rfl) h2 (hp_set (i := 2) hh rfl (by decide) (Md.s_read h4)) ?_
  refine x_ldan rfl rfl rfl (h_lt (i := 0) hb (by decide)) ?_
  refine x_getf rfl rfl (h_lt (i := 0) hb (by decide)) (hp_at (i := 0) hh rfl rfl) rfl ?_
  refine x_b 4 (S2 := (22, [some (.ref b), some (.int x1), some (.int x2)], [.int (1 + x2), .ref (b + 2), .int (1 + x2), .ref (b + 2)], (hput h b (Md.cells b B3)), c, n)) rfl ?_
  obtain ⟨i5, h6, hr⟩ := bd_some hr
  refine x_iald rfl rfl (h_lt (i := 2) hb (by decide)) (hp_at (i := 2) hh rfl rfl) h6 ?_
  refine x_b 4 (S2 := (27, [some (.ref b), some (.int x1), some (.int x2)], [.int ((B3.read i5) ||| (1 <<< (x1 &&& 31))), .int (1 + x2), .ref (b + 2)], (hput h b (Md.cells b B3)), c, n)) rfl ?_
  obtain ⟨B7, h8, hr⟩ := bd_some hr
  refine x_iast (H := (hput h b (Md.cells b B7))) rfl rfl (h_lt (i := 2) hb (by decide)) (hp_at (i := 2) hh rfl rfl) h6 (hp_set (i := 2) hh rfl (by decide) (Md.s_read h8)) ?_
  cases hr
  rw [kr]
  exact x_ret rfl rfl rfl
theorem m_151 {h : AHp} {b : Nat} (hb : b + 17 ≤ am_SB) (hh : b + 17 ≤ h.length) {B : Md} {x1 : Int32} {x2 : Int32} {o : Md} (hr : F_151 B x1 x2 = some o) : Rn 2 151 [.ref b, .int x1, .int x2] (hput h b (Md.cells b B)) (.inl (none), hput h b (Md.cells b o), 0, 0) :=
  x_meth (M := am_M151) rfl (show 3 ≤ 3 by decide) (f_151 (Nat.le_refl _) hb hh hr rfl)
abbrev P_152_19 (h : AHp) (b : Nat) (c n : Nat) (N : Nat) (x2 : Int32) (s : Int32 × (Nat → Int32)) : ASt := (19, [some (.ref b), none, some (.int x2), some (.int s.1)], [], (hput h b (Ar.cells N s.2)), c, n)
abbrev PX_152_19 (h : AHp) (b : Nat) (c n : Nat) (N : Nat) (x2 : Int32) (s : (Nat → Int32)) : ASt := (48, [some (.ref b), none, none, none], [], (hput h b (Ar.cells N s)), c, n)
def G_152_19 (N : Nat) (x2 : Int32) (s : Int32 × (Nat → Int32)) : Option ((Int32 × (Nat → Int32)) ⊕ ((Nat → Int32))) := 
  match s with
  | (x3, B) =>
    if 6 ≤ x3 then
      some (.inr B)
    else
      (ix ((x2 + 1) + x3) N).bind fun i8 =>
      (some (upd B i8 0)).bind fun B10 =>
      (ix ((x2 + 7) + x3) N).bind fun i12 =>
      (some (upd B10 i12 (-1))).bind fun B14 =>
      some (.inl ((x3 + 1), B14))
theorem g_152_19 {d : Nat} (hd : 1 ≤ d) {scr : ASc} {res : ARe} {c n : Nat} {h : AHp} {b : Nat} (hb : b + 1 ≤ am_SB) (hh : b + 1 ≤ h.length) {N : Nat} {x2 : Int32} {s : Int32 × (Nat → Int32)} {o : (Int32 × (Nat → Int32)) ⊕ ((Nat → Int32))} (hr : G_152_19 N x2 s = some o) (ka : ∀ s, o = .inl s → Ex d am_M152 scr (P_152_19 h b c n N x2 s) res) (kx : ∀ s, o = .inr s → Ex d am_M152 scr (PX_152_19 h b c n N x2 s) res) : Ex d am_M152 scr (P_152_19 h b c n N x2 s) res := by
  obtain ⟨x3, B⟩ := s
  delta G_152_19 at hr
  show Ex d am_M152 scr (19, [some (.ref b), none, some (.int x2), some (.int x3)], [], (hput h b (Ar.cells N B)), c, n) res
  refine x_b 2 (S2 := (22, [some (.ref b), none, some (.int x2), some (.int x3)], [.int 6, .int x3], (hput h b (Ar.cells N B)), c, n)) rfl ?_
  rcases ite_some hr with ⟨h7, hr⟩ | ⟨h7, hr⟩
  · refine x_ct rfl rfl (decide_eq_true h7) ?_
    refine x_fg (Lq.s (Lq.s (Lq.n (Lq.n Lq.nil)))) ?_
    exact kx B (Option.some.inj hr).symm
  · refine x_cf rfl rfl (decide_eq_false h7) ?_
    refine x_ldan rfl rfl rfl (h_lt (i := 0) hb (by decide)) ?_
    refine x_b 6 (S2 := (32, [some (.ref b), none, some (.int x2), some (.int x3)], [.int 0, .int ((x2 + 1) + x3), .ref b], (hput h b (Ar.cells N B)), c, n)) rfl ?_
    obtain ⟨i8, h9, hr⟩ := bd_some hr
    obtain ⟨B10, h11, hr⟩ := bd_some hr
    refine x_iast (H := (hput h b (Ar.cells N B10))) rfl rfl (h_lt (i := 0) hb (by decide)) (hp_at (i := 0) hh rfl rfl) h9 (hp_set (i := 0) hh rfl (by decide) (Ar.s_ h11)) ?_
    refine x_ldan rfl rfl rfl (h_lt (i := 0) hb (by decide)) ?_
    refine x_b 6 (S2 := (41, [some (.ref b), none, some (.int x2), some (.int x3)], [.int (-1), .int ((x2 + 7) + x3), .ref b], (hput h b (Ar.cells N B10)), c, n)) rfl ?_
    obtain ⟨i12, h13, hr⟩ := bd_some hr
    obtain ⟨B14, h15, hr⟩ := bd_some hr
    refine x_iast (H := (hput h b (Ar.cells N B14))) rfl rfl (h_lt (i := 0) hb (by decide)) (hp_at (i := 0) hh rfl rfl) h13 (hp_set (i := 0) hh rfl (by decide) (Ar.s_ h15)) ?_
    refine x_b 2 (S2 := (19, [some (.ref b), none, some (.int x2), some (.int (x3 + 1))], [], (hput h b (Ar.cells N B14)), c, n)) rfl ?_
    refine x_fg (Lq.s (Lq.s (Lq.s (Lq.s Lq.nil)))) ?_
    exact ka ((x3 + 1), B14) (Option.some.inj hr).symm
/-- PebbleProofsModel.newStrategy([II)V -/
def F_152 (N : Nat) (B : Nat → Int32) (x1 : Int32) : Option (Nat → Int32) :=
  (ix 14 N).bind fun i1 =>
  (ix ((15 + (13 * (B i1))) + 0) N).bind fun i3 =>
  (some (upd B i3 x1)).bind fun B5 =>
  (lw (G_152_19 N (15 + (13 * (B i1)))) 200000 (0, B5)).bind fun B17 =>
  (ix 14 N).bind fun i19 =>
  (some (upd B17 i19 ((B17 i19) + 1))).bind fun B21 =>
  some B21
theorem f_152 {d : Nat} (hd : 1 ≤ d) {scr : ASc} {res : ARe} {c n : Nat} {h : AHp} {b : Nat} (hb : b + 1 ≤ am_SB) (hh : b + 1 ≤ h.length) {N : Nat} {B : Nat → Int32} {x1 : Int32} {o : Nat → Int32} (hr : F_152 N B x1 = some o) (kr : res = (.inl (none), hput h b (Ar.cells N o), c, n)) : Ex d am_M152 scr (0, [some (.ref b), some (.int x1), none, none], [], (hput h b (Ar.cells N B)), c, n) res := by
  delta F_152 at hr
  refine x_b 2 (S2 := (4, [some (.ref b), some (.int x1), none, none], [.int 13, .int 15], (hput h b (Ar.cells N B)), c, n)) rfl ?_
  refine x_ldan rfl rfl rfl (h_lt (i := 0) hb (by decide)) ?_
  refine x_b 1 (S2 := (7, [some (.ref b), some (.int x1), none, none], [.int 14, .ref b, .int 13, .int 15], (hput h b (Ar.cells N B)), c, n)) rfl ?_
  obtain ⟨i1, h2, hr⟩ := bd_some hr
  refine x_iald rfl rfl (h_lt (i := 0) hb (by decide)) (hp_at (i := 0) hh rfl rfl) h2 ?_
  refine x_b 3 (S2 := (11, [some (.ref b), some (.int x1), some (.int (15 + (13 * (B i1)))), none], [], (hput h b (Ar.cells N B)), c, n)) rfl ?_
  refine x_ldan rfl rfl rfl (h_lt (i := 0) hb (by decide)) ?_
  refine x_b 4 (S2 := (16, [some (.ref b), some (.int x1), some (.int (15 + (13 * (B i1)))), none], [.int x1, .int ((15 + (13 * (B i1))) + 0), .ref b], (hput h b (Ar.cells N B)), c, n)) rfl ?_
  obtain ⟨i3, h4, hr⟩ := bd_some hr
  obtain ⟨B5, h6, hr⟩ := bd_some hr
  refine x_iast (H := (hput h b (Ar.cells N B5))) rfl rfl (h_lt (i := 0) hb (by decide)) (hp_at (i := 0) hh rfl rfl) h4 (hp_set (i := 0) hh rfl (by decide) (Ar.s_ h6)) ?_
  refine x_b 2 (S2 := (19, [some (.ref b), some (.int x1), some (.int (15 + (13 * (B i1)))), some (.int 0)], [], (hput h b (Ar.cells N B5)), c, n)) rfl ?_
  refine x_fg (Lq.s (Lq.n (Lq.s (Lq.s Lq.nil)))) ?_
  obtain ⟨B17, h16, hr⟩ := bd_some hr
  refine x_lw (P := P_152_19 h b c n N (15 + (13 * (B i1)))) (Q := fun x => Ex d am_M152 scr (PX_152_19 h b c n N (15 + (13 * (B i1))) x) res) (fun s o h1 ka kx => g_152_19 hd hb hh h1 ka kx) _ (0, B5) _ h16 ?_
  show Ex d am_M152 scr (48, [some (.ref b), none, none, none], [], (hput h b (Ar.cells N B17)), c, n) res
  refine x_ldan rfl rfl rfl (h_lt (i := 0) hb (by decide)) ?_
  refine x_b 2 (S2 := (52, [some (.ref b), none, none, none], [.int 14, .ref b, .int 14, .ref b], (hput h b (Ar.cells N B17)), c, n)) rfl ?_
  obtain ⟨i19, h20, hr⟩ := bd_some hr
  refine x_iald rfl rfl (h_lt (i := 0) hb (by decide)) (hp_at (i := 0) hh rfl rfl) h20 ?_
  refine x_b 2 (S2 := (55, [some (.ref b), none, none, none], [.int ((B17 i19) + 1), .int 14, .ref b], (hput h b (Ar.cells N B17)), c, n)) rfl ?_
  obtain ⟨B21, h22, hr⟩ := bd_some hr
  refine x_iast (H := (hput h b (Ar.cells N B21))) rfl rfl (h_lt (i := 0) hb (by decide)) (hp_at (i := 0) hh rfl rfl) h20 (hp_set (i := 0) hh rfl (by decide) (Ar.s_ h22)) ?_
  cases hr
  rw [kr]
  exact x_ret rfl rfl rfl
theorem m_152 {h : AHp} {b : Nat} (hb : b + 1 ≤ am_SB) (hh : b + 1 ≤ h.length) {N : Nat} {B : Nat → Int32} {x1 : Int32} {o : Nat → Int32} (hr : F_152 N B x1 = some o) : Rn 2 152 [.ref b, .int x1] (hput h b (Ar.cells N B)) (.inl (none), hput h b (Ar.cells N o), 0, 0) :=
  x_meth (M := am_M152) rfl (show 2 ≤ 4 by decide) (f_152 (Nat.le_refl _) hb hh hr rfl)
abbrev P_153_4 (H : AHp) (b : Nat) (c n : Nat) (N : Nat) (B : Nat → Int32) (s : Int32 × Int32) : ASt := (4, [some (.ref b), some (.int s.1), some (.int s.2), none, none], [], H, c, n)
abbrev PX_153_4 (H : AHp) (b : Nat) (c n : Nat) (N : Nat) (B : Nat → Int32) (s : Int32) : ASt := (62, [none, some (.int s), none, none, none], [], H, c, n)
abbrev P_153_13 (H : AHp) (b : Nat) (c n : Nat) (N : Nat) (B : Nat → Int32) (x1 : Int32) (x2 : Int32) (s : Int32 × Int32) : ASt := (13, [some (.ref b), some (.int x1), some (.int x2), some (.int s.1), some (.int s.2)], [], H, c, n)
abbrev PX_153_13 (H : AHp) (b : Nat) (c n : Nat) (N : Nat) (B : Nat → Int32) (x1 : Int32) (x2 : Int32) (s : Int32) : ASt := (49, [some (.ref b), some (.int x1), none, some (.int s), none], [], H, c, n)
def J_153_13_j41 (N : Nat) (B : Nat → Int32) (x1 : Int32) (x2 : Int32) (x4 : Int32) (t0 : Int32) (t1 : Int32) : Option ((Int32 × Int32) ⊕ (Int32)) :=
  some (.inl ((t1 ||| t0), (x4 + 1)))
theorem j_153_13_j41 {d : Nat} (hd : 2 ≤ d) {scr : ASc} {res : ARe} {c n : Nat} {H : AHp} {b : Nat} {N : Nat} {B : Nat → Int32} {x1 : Int32} {x2 : Int32} {x4 : Int32} {t0 : Int32} {t1 : Int32} (hR : Rg H b (Ar.cells N B)) {o : (Int32 × Int32) ⊕ (Int32)} (hr : J_153_13_j41 N B x1 x2 x4 t0 t1 = some o) (ka : ∀ s, o = .inl s → Ex d am_M153 scr (P_153_13 H b c n N B x1 x2 s) res) (kx : ∀ s, o = .inr s → Ex d am_M153 scr (PX_153_13 H b c n N B x1 x2 s) res) : Ex d am_M153 scr (41, [some (.ref b), some (.int x1), some (.int x2), none, some (.int x4)], [.int t0, .int t1], H, c, n) res := by
  delta J_153_13_j41 at hr
  refine x_b 4 (S2 := (13, [some (.ref b), some (.int x1), some (.int x2), some (.int (t1 ||| t0)), some (.int (x4 + 1))], [], H, c, n)) rfl ?_
  refine x_fg (Lq.s (Lq.s (Lq.s (Lq.s (Lq.s Lq.nil))))) ?_
  exact ka ((t1 ||| t0), (x4 + 1)) (Option.some.inj hr).symm
def G_153_13 (N : Nat) (B : Nat → Int32) (x1 : Int32) (x2 : Int32) (s : Int32 × Int32) : Option ((Int32 × Int32) ⊕ (Int32)) := 
  match s with
  | (x3, x4) =>
    (ix 0 N).bind fun i2 =>
    if (B i2) ≤ x4 then
      some (.inr x3)
    else
      (F_136 x2 x4).bind fun v6 =>
      if v6 = 0 then
        J_153_13_j41 N B x1 x2 x4 0 x3
      else
        (ix (1 + x4) N).bind fun i8 =>
        J_153_13_j41 N B x1 x2 x4 (B i8) x3
theorem g_153_13 {d : Nat} (hd : 2 ≤ d) {scr : ASc} {res : ARe} {c n : Nat} {H : AHp} {b : Nat} {N : Nat} {B : Nat → Int32} {x1 : Int32} {x2 : Int32} (hR : Rg H b (Ar.cells N B)) {s : Int32 × Int32} {o : (Int32 × Int32) ⊕ (Int32)} (hr : G_153_13 N B x1 x2 s = some o) (ka : ∀ s, o = .inl s → Ex d am_M153 scr (P_153_13 H b c n N B x1 x2 s) res) (kx : ∀ s, o = .inr s → Ex d am_M153 scr (PX_153_13 H b c n N B x1 x2 s) res) : Ex d am_M153 scr (P_153_13 H b c n N B x1 x2 s) res := by
  obtain ⟨x3, x4⟩ := s
  delta G_153_13 at hr
  show Ex d am_M153 scr (13, [some (.ref b), some (.int x1), some (.int x2), some (.int x3), some (.int x4)], [], H, c, n) res
  refine x_b 1 (S2 := (15, [some (.ref b), some (.int x1), some (.int x2), some (.int x3), some (.int x4)], [.int x4], H, c, n)) rfl ?_
  refine x_ldan rfl rfl rfl (hR.lt (i := 0) (show 0 < 1 by decide)) ?_
  refine x_b 1 (S2 := (17, [some (.ref b), some (.int x1), some (.int x2), some (.int x3), some (.int x4)], [.int 0, .ref b, .int x4], H, c, n)) rfl ?_
  obtain ⟨i2, h3, hr⟩ := bd_some hr
  refine x_iald rfl rfl (hR.lt (i := 0) (show 0 < 1 by decide)) (hR.at (i := 0) rfl) h3 ?_
  rcases ite_some hr with ⟨h4, hr⟩ | ⟨h4, hr⟩
  · refine x_ct rfl rfl (decide_eq_true h4) ?_
    refine x_fg (Lq.s (Lq.s (Lq.n (Lq.s (Lq.n Lq.nil))))) ?_
    exact kx x3 (Option.some.inj hr).symm
  · refine x_cf rfl rfl (decide_eq_false h4) ?_
    refine x_b 3 (S2 := (25, [some (.ref b), some (.int x1), some (.int x2), some (.int x3), some (.int x4)], [.int x4, .int x2, .int x3], H, c, n)) rfl ?_
    obtain ⟨v6, h5, hr⟩ := bd_some hr
    refine x_c0 (m_136 h5) rfl rfl rfl rfl rfl (by omega) ?_
    rcases ite_some hr with ⟨h7, hr⟩ | ⟨h7, hr⟩
    · refine x_zt rfl rfl (decide_eq_true h7) ?_
      refine x_b 1 (S2 := (41, [some (.ref b), some (.int x1), some (.int x2), some (.int x3), some (.int x4)], [.int 0, .int x3], H, c, n)) rfl ?_
      refine x_fg (Lq.s (Lq.s (Lq.s (Lq.n (Lq.s Lq.nil))))) ?_
      exact j_153_13_j41 hd hR hr ka kx
    · refine x_zf rfl rfl (decide_eq_false h7) ?_
      refine x_ldan rfl rfl rfl (hR.lt (i := 0) (show 0 < 1 by decide)) ?_
      refine x_b 3 (S2 := (36, [some (.ref b), some (.int x1), some (.int x2), some (.int x3), some (.int x4)], [.int (1 + x4), .ref b, .int x3], H, c, n)) rfl ?_
      obtain ⟨i8, h9, hr⟩ := bd_some hr
      refine x_iald rfl rfl (hR.lt (i := 0) (show 0 < 1 by decide)) (hR.at (i := 0) rfl) h9 ?_
      refine x_b 1 (S2 := (41, [some (.ref b), some (.int x1), some (.int x2), some (.int x3), some (.int x4)], [.int (B i8), .int x3], H, c, n)) rfl ?_
      refine x_fg (Lq.s (Lq.s (Lq.s (Lq.n (Lq.s Lq.nil))))) ?_
      exact j_153_13_j41 hd hR hr ka kx
def G_153_4 (N : Nat) (B : Nat → Int32) (s : Int32 × Int32) : Option ((Int32 × Int32) ⊕ (Int32)) := 
  match s with
  | (x1, x2) =>
    if x2 = 0 then
      some (.inr x1)
    else
      (lw (G_153_13 N B x1 x2) 200000 (0, 0)).bind fun v11 =>
      some (.inl ((x1 ||| v11), (v11 &&& (x1 ^^^ (-1)))))
theorem g_153_4 {d : Nat} (hd : 2 ≤ d) {scr : ASc} {res : ARe} {c n : Nat} {H : AHp} {b : Nat} {N : Nat} {B : Nat → Int32} (hR : Rg H b (Ar.cells N B)) {s : Int32 × Int32} {o : (Int32 × Int32) ⊕ (Int32)} (hr : G_153_4 N B s = some o) (ka : ∀ s, o = .inl s → Ex d am_M153 scr (P_153_4 H b c n N B s) res) (kx : ∀ s, o = .inr s → Ex d am_M153 scr (PX_153_4 H b c n N B s) res) : Ex d am_M153 scr (P_153_4 H b c n N B s) res := by
  obtain ⟨x1, x2⟩ := s
  delta G_153_4 at hr
  show Ex d am_M153 scr (4, [some (.ref b), some (.int x1), some (.int x2), none, none], [], H, c, n) res
  refine x_b 1 (S2 := (5, [some (.ref b), some (.int x1), some (.int x2), none, none], [.int x2], H, c, n)) rfl ?_
  rcases ite_some hr with ⟨h1, hr⟩ | ⟨h1, hr⟩
  · refine x_zt rfl rfl (decide_eq_true h1) ?_
    refine x_fg (Lq.n (Lq.s (Lq.n (Lq.s (Lq.s Lq.nil))))) ?_
    exact kx x1 (Option.some.inj hr).symm
  · refine x_zf rfl rfl (decide_eq_false h1) ?_
    refine x_b 4 (S2 := (13, [some (.ref b), some (.int x1), some (.int x2), some (.int 0), some (.int 0)], [], H, c, n)) rfl ?_
    refine x_fg (Lq.s (Lq.s (Lq.s (Lq.s (Lq.s Lq.nil))))) ?_
    obtain ⟨v11, h10, hr⟩ := bd_some hr
    refine x_lw (P := P_153_13 H b c n N B x1 x2) (Q := fun x => Ex d am_M153 scr (PX_153_13 H b c n N B x1 x2 x) res) (fun s o h1 ka kx => g_153_13 hd hR h1 ka kx) _ (0, 0) _ h10 ?_
    show Ex d am_M153 scr (49, [some (.ref b), some (.int x1), none, some (.int v11), none], [], H, c, n) res
    refine x_b 11 (S2 := (4, [some (.ref b), some (.int (x1 ||| v11)), some (.int (v11 &&& (x1 ^^^ (-1)))), some (.int v11), none], [], H, c, n)) rfl ?_
    refine x_fg (Lq.s (Lq.s (Lq.s (Lq.n (Lq.s Lq.nil))))) ?_
    exact ka ((x1 ||| v11), (v11 &&& (x1 ^^^ (-1)))) (Option.some.inj hr).symm
/-- PebbleProofsModel.connected([I)I -/
def F_153 (N : Nat) (B : Nat → Int32) : Option (Int32) :=
  (lw (G_153_4 N B) 200000 (1, 1)).bind fun v14 =>
  some v14
theorem f_153 {d : Nat} (hd : 2 ≤ d) {scr : ASc} {res : ARe} {c n : Nat} {H : AHp} {b : Nat} {N : Nat} {B : Nat → Int32} (hR : Rg H b (Ar.cells N B)) {o : Int32} (hr : F_153 N B = some o) (kr : res = (.inl (some (.int o)), H, c, n)) : Ex d am_M153 scr (0, [some (.ref b), none, none, none, none], [], H, c, n) res := by
  delta F_153 at hr
  refine x_b 4 (S2 := (4, [some (.ref b), some (.int 1), some (.int 1), none, none], [], H, c, n)) rfl ?_
  refine x_fg (Lq.s (Lq.s (Lq.s (Lq.s (Lq.s Lq.nil))))) ?_
  obtain ⟨v14, h13, hr⟩ := bd_some hr
  refine x_lw (P := P_153_4 H b c n N B) (Q := fun x => Ex d am_M153 scr (PX_153_4 H b c n N B x) res) (fun s o h1 ka kx => g_153_4 hd hR h1 ka kx) _ (1, 1) _ h13 ?_
  show Ex d am_M153 scr (62, [none, some (.int v14), none, none, none], [], H, c, n) res
  refine x_b 1 (S2 := (63, [none, some (.int v14), none, none, none], [.int v14], H, c, n)) rfl ?_
  cases hr
  rw [kr]
  exact x_ret rfl rfl am_ret_i
theorem m_153 {H : AHp} {b : Nat} {N : Nat} {B : Nat → Int32} (hR : Rg H b (Ar.cells N B)) {o : Int32} (hr : F_153 N B = some o) : Rn 3 153 [.ref b] H (.inl (some (.int o)), H, 0, 0) :=
  x_meth (M := am_M153) rfl (show 1 ≤ 5 by decide) (f_153 (Nat.le_refl _) hR hr rfl)
def J_154_0_j19 (N : Nat) (B : Nat → Int32) (t0 : Int32) : Option (Int32) :=
  if t0 = 0 ∨ t0 = 1 then some t0 else none
theorem j_154_0_j19 {d : Nat} (hd : 3 ≤ d) {scr : ASc} {res : ARe} {c n : Nat} {H : AHp} {b : Nat} {N : Nat} {B : Nat → Int32} {t0 : Int32} (hR : Rg H b (Ar.cells N B)) {o : Int32} (hr : J_154_0_j19 N B t0 = some o) (kr : res = (.inl (some (.int o)), H, c, n)) : Ex d am_M154 scr (19, [none], [.int t0], H, c, n) res := by
  delta J_154_0_j19 at hr
  obtain ⟨h6, hr⟩ := itn_some hr
  cases hr
  rw [kr]
  exact x_ret rfl rfl (am_ret_z h6)
/-- PebbleProofsModel.isConnected([I)Z -/
def F_154 (N : Nat) (B : Nat → Int32) : Option (Int32) :=
  (F_153 N B).bind fun v2 =>
  (ix 0 N).bind fun i3 =>
  if ¬ v2 = ((1 <<< ((B i3) &&& 31)) - 1) then
    J_154_0_j19 N B 0
  else
    J_154_0_j19 N B 1
theorem f_154 {d : Nat} (hd : 3 ≤ d) {scr : ASc} {res : ARe} {c n : Nat} {H : AHp} {b : Nat} {N : Nat} {B : Nat → Int32} (hR : Rg H b (Ar.cells N B)) {o : Int32} (hr : F_154 N B = some o) (kr : res = (.inl (some (.int o)), H, c, n)) : Ex d am_M154 scr (0, [some (.ref b)], [], H, c, n) res := by
  delta F_154 at hr
  refine x_ldan rfl rfl rfl (hR.lt (i := 0) (show 0 < 1 by decide)) ?_
  obtain ⟨v2, h1, hr⟩ := bd_some hr
  refine x_c0 (m_153 hR h1) rfl rfl rfl rfl rfl (by omega) ?_
  refine x_b 1 (S2 := (5, [some (.ref b)], [.int 1, .int v2], H, c, n)) rfl ?_
  refine x_ldan rfl rfl rfl (hR.lt (i := 0) (show 0 < 1 by decide)) ?_
  refine x_b 1 (S2 := (7, [some (.ref b)], [.int 0, .ref b, .int 1, .int v2], H, c, n)) rfl ?_
  obtain ⟨i3, h4, hr⟩ := bd_some hr
  refine x_iald rfl rfl (hR.lt (i := 0) (show 0 < 1 by decide)) (hR.at (i := 0) rfl) h4 ?_
  refine x_b 3 (S2 := (11, [some (.ref b)], [.int ((1 <<< ((B i3) &&& 31)) - 1), .int v2], H, c, n)) rfl ?_
  rcases ite_some hr with ⟨h5, hr⟩ | ⟨h5, hr⟩
  · refine x_ct rfl rfl (decide_eq_true h5) ?_
    refine x_b 1 (S2 := (19, [some (.ref b)], [.int 0], H, c, n)) rfl ?_
    refine x_fg (Lq.n Lq.nil) ?_
    exact j_154_0_j19 hd hR hr kr
  · refine x_cf rfl rfl (decide_eq_false h5) ?_
    refine x_b 2 (S2 := (19, [some (.ref b)], [.int 1], H, c, n)) rfl ?_
    refine x_fg (Lq.n Lq.nil) ?_
    exact j_154_0_j19 hd hR hr kr
theorem m_154 {H : AHp} {b : Nat} {N : Nat} {B : Nat → Int32} (hR : Rg H b (Ar.cells N B)) {o : Int32} (hr : F_154 N B = some o) : Rn 4 154 [.ref b] H (.inl (some (.int o)), H, 0, 0) :=
  x_meth (M := am_M154) rfl (show 1 ≤ 1 by decide) (f_154 (Nat.le_refl _) hR hr rfl)
/-- PebbleProofsModel.takeVertex()I -/
def F_155 (B : Md) : Option (Int32 × (Md)) :=
  (ix 0 93).bind fun i1 =>
  (F_149 B 0 ((B.read i1) - 1)).bind fun (v4, B5) =>
  some (v4, B5)
theorem f_155 {d : Nat} (hd : 4 ≤ d) {scr : ASc} {res : ARe} {c n : Nat} {h : AHp} {b : Nat} (hb : b + 17 ≤ am_SB) (hh : b + 17 ≤ h.length) {B : Md} {o : Int32 × (Md)} (hr : F_155 B = some o) (kr : res = (.inl (some (.int o.1)), hput h b (Md.cells b o.2), c, n)) : Ex d am_M155 scr (0, [some (.ref b)], [], (hput h b (Md.cells b B)), c, n) res := by
  delta F_155 at hr
  refine x_ldan rfl rfl rfl (h_lt (i := 0) hb (by decide)) ?_
  refine x_b 1 (S2 := (2, [some (.ref b)], [.int 0, .ref b], (hput h b (Md.cells b B)), c, n)) rfl ?_
  refine x_ldan rfl rfl rfl (h_lt (i := 0) hb (by decide)) ?_
  refine x_getf rfl rfl (h_lt (i := 0) hb (by decide)) (hp_at (i := 0) hh rfl rfl) rfl ?_
  refine x_b 1 (S2 := (7, [some (.ref b)], [.int 0, .ref (b + 2), .int 0, .ref b], (hput h b (Md.cells b B)), c, n)) rfl ?_
  obtain ⟨i1, h2, hr⟩ := bd_some hr
  refine x_iald rfl rfl (h_lt (i := 2) hb (by decide)) (hp_at (i := 2) hh rfl rfl) h2 ?_
  refine x_b 2 (S2 := (10, [some (.ref b)], [.int ((B.read i1) - 1), .int 0, .ref b], (hput h b (Md.cells b B)), c, n)) rfl ?_
  obtain ⟨⟨v4, B5⟩, h3, hr⟩ := bd_some hr
  refine x_c0 (m_149 hb hh h3) rfl rfl rfl rfl (am_recv_v (h_lt (i := 0) hb (by decide)) (hp_at (i := 0) hh rfl rfl) rfl) (by omega) ?_
  cases hr
  rw [kr]
  exact x_ret rfl rfl am_ret_i
theorem m_155 {h : AHp} {b : Nat} (hb : b + 17 ≤ am_SB) (hh : b + 17 ≤ h.length) {B : Md} {o : Int32 × (Md)} (hr : F_155 B = some o) : Rn 5 155 [.ref b] (hput h b (Md.cells b B)) (.inl (some (.int o.1)), hput h b (Md.cells b o.2), 0, 0) :=
  x_meth (M := am_M155) rfl (show 1 ≤ 1 by decide) (f_155 (Nat.le_refl _) hb hh hr rfl)
/-- PebbleProofsModel.verticesStatement()V -/
def F_156 (B : Md) : Option (Md) :=
  (F_147 B 0).bind fun v2 =>
  if ¬ v2 = 0 then
    (F_144 B).bind fun B5 =>
    (F_149 B5 1 6).bind fun (v7, B8) =>
    (ix 0 93).bind fun i9 =>
    (some (B8.w_read (upd B8.read i9 v7))).bind fun B11 =>
    some B11
  else
    (F_145 B).bind fun B14 =>
    some B14
theorem f_156 {d : Nat} (hd : 7 ≤ d) {scr : ASc} {res : ARe} {c n : Nat} {h : AHp} {b : Nat} (hb : b + 17 ≤ am_SB) (hh : b + 17 ≤ h.length) {B : Md} {o : Md} (hr : F_156 B = some o) (kr : res = (.inl (none), hput h b (Md.cells b o), c, n)) : Ex d am_M156 scr (0, [some (.ref b)], [], (hput h b (Md.cells b B)), c, n) res := by
  delta F_156 at hr
  refine x_ldan rfl rfl rfl (h_lt (i := 0) hb (by decide)) ?_
  refine x_b 1 (S2 := (3, [some (.ref b)], [.ref (am_SB + 10 + 2 * 0), .ref b], (hput h b (Md.cells b B)), c, n)) rfl ?_
  obtain ⟨v2, h1, hr⟩ := bd_some hr
  refine x_c0 (m_147 (by decide) (hp_rg hb hh rfl) h1) rfl rfl rfl rfl (am_recv_v (h_lt (i := 0) hb (by decide)) (hp_at (i := 0) hh rfl rfl) rfl) (by omega) ?_
  rcases ite_some hr with ⟨h3, hr⟩ | ⟨h3, hr⟩
  · refine x_zt rfl rfl (decide_eq_true h3) ?_
    refine x_ldan rfl rfl rfl (h_lt (i := 0) hb (by decide)) ?_
    obtain ⟨B5, h4, hr⟩ := bd_some hr
    refine x_c0 (m_144 hb hh h4) rfl rfl rfl rfl (am_recv_v (h_lt (i := 0) hb (by decide)) (hp_at (i := 0) hh rfl rfl) rfl) (by omega) ?_
    refine x_ldan rfl rfl rfl (h_lt (i := 0) hb (by decide)) ?_
    refine x_getf rfl rfl (h_lt (i := 0) hb (by decide)) (hp_at (i := 0) hh rfl rfl) rfl ?_
    refine x_b 1 (S2 := (23, [some (.ref b)], [.int 0, .ref (b + 2)], (hput h b (Md.cells b B5)), c, n)) rfl ?_
    refine x_ldan rfl rfl rfl (h_lt (i := 0) hb (by decide)) ?_
    refine x_b 2 (S2 := (27, [some (.ref b)], [.int 6, .int 1, .ref b, .int 0, .ref (b + 2)], (hput h b (Md.cells b B5)), c, n)) rfl ?_
    obtain ⟨⟨v7, B8⟩, h6, hr⟩ := bd_some hr
    refine x_c0 (m_149 hb hh h6) rfl rfl rfl rfl (am_recv_v (h_lt (i := 0) hb (by decide)) (hp_at (i := 0) hh rfl rfl) rfl) (by omega) ?_
    obtain ⟨i9, h10, hr⟩ := bd_some hr
    obtain ⟨B11, h12, hr⟩ := bd_some hr
    refine x_iast (H := (hput h b (Md.cells b B11))) rfl rfl (h_lt (i := 2) hb (by decide)) (hp_at (i := 2) hh rfl rfl) h10 (hp_set (i := 2) hh rfl (by decide) (Md.s_read h12)) ?_
    cases hr
    rw [kr]
    exact x_ret rfl rfl rfl
  · refine x_zf rfl rfl (decide_eq_false h3) ?_
    refine x_ldan rfl rfl rfl (h_lt (i := 0) hb (by decide)) ?_
    obtain ⟨B14, h13, hr⟩ := bd_some hr
    refine x_c0 (m_145 hb hh h13) rfl rfl rfl rfl (am_recv_v (h_lt (i := 0) hb (by decide)) (hp_at (i := 0) hh rfl rfl) rfl) (by omega) ?_
    cases hr
    rw [kr]
    exact x_ret rfl rfl rfl
theorem m_156 {h : AHp} {b : Nat} (hb : b + 17 ≤ am_SB) (hh : b + 17 ≤ h.length) {B : Md} {o : Md} (hr : F_156 B = some o) : Rn 8 156 [.ref b] (hput h b (Md.cells b B)) (.inl (none), hput h b (Md.cells b o), 0, 0) :=
  x_meth (M := am_M156) rfl (show 1 ≤ 1 by decide) (f_156 (Nat.le_refl _) hb hh hr rfl)
abbrev P_157_11 (h : AHp) (b : Nat) (c n : Nat)  (s : Int32 × Int32 × (Md)) : ASt := (11, [some (.ref b), some (.int s.1), some (.int s.2.1), none], [], (hput h b (Md.cells b s.2.2)), c, n)
abbrev PX_157_11 (h : AHp) (b : Nat) (c n : Nat)  (s : (Md)) : ASt := (105, [none, none, none, none], [], (hput h b (Md.cells b s)), c, n)
def J_157_11_j101 (B : Md) (x1 : Int32) (t0 : Int32) : Option ((Int32 × Int32 × (Md)) ⊕ ((Md))) :=
  some (.inl (x1, t0, B))
theorem j_157_11_j101 {d : Nat} (hd : 5 ≤ d) {scr : ASc} {res : ARe} {c n : Nat} {h : AHp} {b : Nat} (hb : b + 17 ≤ am_SB) (hh : b + 17 ≤ h.length) {B : Md} {x1 : Int32} {t0 : Int32} {o : (Int32 × Int32 × (Md)) ⊕ ((Md))} (hr : J_157_11_j101 B x1 t0 = some o) (ka : ∀ s, o = .inl s → Ex d am_M157 scr (P_157_11 h b c n  s) res) (kx : ∀ s, o = .inr s → Ex d am_M157 scr (PX_157_11 h b c n  s) res) : Ex d am_M157 scr (101, [some (.ref b), some (.int x1), none, none], [.int t0], (hput h b (Md.cells b B)), c, n) res := by
  delta J_157_11_j101 at hr
  refine x_b 2 (S2 := (11, [some (.ref b), some (.int x1), some (.int t0), none], [], (hput h b (Md.cells b B)), c, n)) rfl ?_
  refine x_fg (Lq.s (Lq.s (Lq.s (Lq.s Lq.nil)))) ?_
  exact ka (x1, t0, B) (Option.some.inj hr).symm
def J_157_11_j86 (B : Md) (x3 : Int32) : Option ((Int32 × Int32 × (Md)) ⊕ ((Md))) :=
  if ¬ B.kind = 2 then
    J_157_11_j101 B x3 0
  else
    J_157_11_j101 B x3 1
theorem j_157_11_j86 {d : Nat} (hd : 5 ≤ d) {scr : ASc} {res : ARe} {c n : Nat} {h : AHp} {b : Nat} (hb : b + 17 ≤ am_SB) (hh : b + 17 ≤ h.length) {B : Md} {x3 : Int32} {o : (Int32 × Int32 × (Md)) ⊕ ((Md))} (hr : J_157_11_j86 B x3 = some o) (ka : ∀ s, o = .inl s → Ex d am_M157 scr (P_157_11 h b c n  s) res) (kx : ∀ s, o = .inr s → Ex d am_M157 scr (PX_157_11 h b c n  s) res) : Ex d am_M157 scr (86, [some (.ref b), none, none, some (.int x3)], [], (hput h b (Md.cells b B)), c, n) res := by
  delta J_157_11_j86 at hr
  refine x_b 2 (S2 := (88, [some (.ref b), some (.int x3), none, some (.int x3)], [], (hput h b (Md.cells b B)), c, n)) rfl ?_
  refine x_ldan rfl rfl rfl (h_lt (i := 0) hb (by decide)) ?_
  refine x_getf rfl rfl (h_lt (i := 0) hb (by decide)) (hp_at (i := 0) hh rfl rfl) rfl ?_
  refine x_b 1 (S2 := (93, [some (.ref b), some (.int x3), none, some (.int x3)], [.int 2, .int B.kind], (hput h b (Md.cells b B)), c, n)) rfl ?_
  rcases ite_some hr with ⟨h21, hr⟩ | ⟨h21, hr⟩
  · refine x_ct rfl rfl (decide_eq_true h21) ?_
    refine x_b 1 (S2 := (101, [some (.ref b), some (.int x3), none, some (.int x3)], [.int 0], (hput h b (Md.cells b B)), c, n)) rfl ?_
    refine x_fg (Lq.s (Lq.s (Lq.s (Lq.n Lq.nil)))) ?_
    exact j_157_11_j101 hd hb hh hr ka kx
  · refine x_cf rfl rfl (decide_eq_false h21) ?_
    refine x_b 2 (S2 := (101, [some (.ref b), some (.int x3), none, some (.int x3)], [.int 1], (hput h b (Md.cells b B)), c, n)) rfl ?_
    refine x_fg (Lq.s (Lq.s (Lq.s (Lq.n Lq.nil)))) ?_
    exact j_157_11_j101 hd hb hh hr ka kx
def J_157_11_j68 (B : Md) (x1 : Int32) : Option ((Int32 × Int32 × (Md)) ⊕ ((Md))) :=
  (F_155 B).bind fun (v16, B17) =>
  (F_146 B17).bind fun v19 =>
  if v19 = 0 then
    J_157_11_j86 B17 v16
  else
    (F_151 B17 x1 v16).bind fun B23 =>
    J_157_11_j86 B23 v16
theorem j_157_11_j68 {d : Nat} (hd : 5 ≤ d) {scr : ASc} {res : ARe} {c n : Nat} {h : AHp} {b : Nat} (hb : b + 17 ≤ am_SB) (hh : b + 17 ≤ h.length) {B : Md} {x1 : Int32} {o : (Int32 × Int32 × (Md)) ⊕ ((Md))} (hr : J_157_11_j68 B x1 = some o) (ka : ∀ s, o = .inl s → Ex d am_M157 scr (P_157_11 h b c n  s) res) (kx : ∀ s, o = .inr s → Ex d am_M157 scr (PX_157_11 h b c n  s) res) : Ex d am_M157 scr (68, [some (.ref b), some (.int x1), none, none], [], (hput h b (Md.cells b B)), c, n) res := by
  delta J_157_11_j68 at hr
  refine x_ldan rfl rfl rfl (h_lt (i := 0) hb (by decide)) ?_
  obtain ⟨⟨v16, B17⟩, h15, hr⟩ := bd_some hr
  refine x_c0 (m_155 hb hh h15) rfl rfl rfl rfl (am_recv_v (h_lt (i := 0) hb (by decide)) (hp_at (i := 0) hh rfl rfl) rfl) (by omega) ?_
  refine x_b 1 (S2 := (73, [some (.ref b), some (.int x1), none, some (.int v16)], [], (hput h b (Md.cells b B17)), c, n)) rfl ?_
  refine x_ldan rfl rfl rfl (h_lt (i := 0) hb (by decide)) ?_
  obtain ⟨v19, h18, hr⟩ := bd_some hr
  refine x_c0 (m_146 (hp_rg hb hh rfl) h18) rfl rfl rfl rfl (am_recv_v (h_lt (i := 0) hb (by decide)) (hp_at (i := 0) hh rfl rfl) rfl) (by omega) ?_
  rcases ite_some hr with ⟨h20, hr⟩ | ⟨h20, hr⟩
  · refine x_zt rfl rfl (decide_eq_true h20) ?_
    refine x_fg (Lq.s (Lq.n (Lq.s (Lq.s Lq.nil)))) ?_
    exact j_157_11_j86 hd hb hh hr ka kx
  · refine x_zf rfl rfl (decide_eq_false h20) ?_
    refine x_ldan rfl rfl rfl (h_lt (i := 0) hb (by decide)) ?_
    refine x_b 2 (S2 := (83, [some (.ref b), some (.int x1), none, some (.int v16)], [.int v16, .int x1, .ref b], (hput h b (Md.cells b B17)), c, n)) rfl ?_
    obtain ⟨B23, h22, hr⟩ := bd_some hr
    refine x_c0 (m_151 hb hh h22) rfl rfl rfl rfl (am_recv_v (h_lt (i := 0) hb (by decide)) (hp_at (i := 0) hh rfl rfl) rfl) (by omega) ?_
    refine x_fg (Lq.s (Lq.n (Lq.s (Lq.s Lq.nil)))) ?_
    exact j_157_11_j86 hd hb hh hr ka kx
def J_157_11_j64 (B : Md) (x1 : Int32) : Option ((Int32 × Int32 × (Md)) ⊕ ((Md))) :=
  (F_145 B).bind fun B26 =>
  J_157_11_j68 B26 x1
theorem j_157_11_j64 {d : Nat} (hd : 5 ≤ d) {scr : ASc} {res : ARe} {c n : Nat} {h : AHp} {b : Nat} (hb : b + 17 ≤ am_SB) (hh : b + 17 ≤ h.length) {B : Md} {x1 : Int32} {o : (Int32 × Int32 × (Md)) ⊕ ((Md))} (hr : J_157_11_j64 B x1 = some o) (ka : ∀ s, o = .inl s → Ex d am_M157 scr (P_157_11 h b c n  s) res) (kx : ∀ s, o = .inr s → Ex d am_M157 scr (PX_157_11 h b c n  s) res) : Ex d am_M157 scr (64, [some (.ref b), some (.int x1), none, none], [], (hput h b (Md.cells b B)), c, n) res := by
  delta J_157_11_j64 at hr
  refine x_ldan rfl rfl rfl (h_lt (i := 0) hb (by decide)) ?_
  obtain ⟨B26, h25, hr⟩ := bd_some hr
  refine x_c0 (m_145 hb hh h25) rfl rfl rfl rfl (am_recv_v (h_lt (i := 0) hb (by decide)) (hp_at (i := 0) hh rfl rfl) rfl) (by omega) ?_
  refine x_fg (Lq.s (Lq.s (Lq.s (Lq.s Lq.nil)))) ?_
  exact j_157_11_j68 hd hb hh hr ka kx
def G_157_11  (s : Int32 × Int32 × (Md)) : Option ((Int32 × Int32 × (Md)) ⊕ ((Md))) := 
  match s with
  | (x1, x2, B) =>
    (F_146 B).bind fun v7 =>
    if v7 = 0 then
      some (.inr B)
    else
      if x2 = 0 then
        some (.inr B)
      else
        (ix 0 93).bind fun i10 =>
        (F_148 B 0 ((B.read i10) - 1)).bind fun v13 =>
        if v13 = 0 then
          J_157_11_j68 B x1
        else
          if B.number = x1 then
            J_157_11_j64 B x1
          else
            (ix (1 + x1) 93).bind fun i27 =>
            (F_136 (B.read i27) B.number).bind fun v30 =>
            if v30 = 0 then
              J_157_11_j68 B x1
            else
              J_157_11_j64 B x1
theorem g_157_11 {d : Nat} (hd : 5 ≤ d) {scr : ASc} {res : ARe} {c n : Nat} {h : AHp} {b : Nat} (hb : b + 17 ≤ am_SB) (hh : b + 17 ≤ h.length)  {s : Int32 × Int32 × (Md)} {o : (Int32 × Int32 × (Md)) ⊕ ((Md))} (hr : G_157_11  s = some o) (ka : ∀ s, o = .inl s → Ex d am_M157 scr (P_157_11 h b c n  s) res) (kx : ∀ s, o = .inr s → Ex d am_M157 scr (PX_157_11 h b c n  s) res) : Ex d am_M157 scr (P_157_11 h b c n  s) res := by
  obtain ⟨x1, x2, B⟩ := s
  delta G_157_11 at hr
  show Ex d am_M157 scr (11, [some (.ref b), some (.int x1), some (.int x2), none], [], (hput h b (Md.cells b B)), c, n) res
  refine x_ldan rfl rfl rfl (h_lt (i := 0) hb (by decide)) ?_
  obtain ⟨v7, h6, hr⟩ := bd_some hr
  refine x_c0 (m_146 (hp_rg hb hh rfl) h6) rfl rfl rfl rfl (am_recv_v (h_lt (i := 0) hb (by decide)) (hp_at (i := 0) hh rfl rfl) rfl) (by omega) ?_
  rcases ite_some hr with ⟨h8, hr⟩ | ⟨h8, hr⟩
  · refine x_zt rfl rfl (decide_eq_true h8) ?_
    refine x_fg (Lq.n (Lq.n (Lq.n (Lq.s Lq.nil)))) ?_
    exact kx B (Option.some.inj hr).symm
  · refine x_zf rfl rfl (decide_eq_false h8) ?_
    refine x_b 1 (S2 := (19, [some (.ref b), some (.int x1), some (.int x2), none], [.int x2], (hput h b (Md.cells b B)), c, n)) rfl ?_
    rcases ite_some hr with ⟨h9, hr⟩ | ⟨h9, hr⟩
    · refine x_zt rfl rfl (decide_eq_true h9) ?_
      refine x_fg (Lq.n (Lq.n (Lq.n (Lq.s Lq.nil)))) ?_
      exact kx B (Option.some.inj hr).symm
    · refine x_zf rfl rfl (decide_eq_false h9) ?_
      refine x_ldan rfl rfl rfl (h_lt (i := 0) hb (by decide)) ?_
      refine x_b 1 (S2 := (24, [some (.ref b), some (.int x1), some (.int x2), none], [.int 0, .ref b], (hput h b (Md.cells b B)), c, n)) rfl ?_
      refine x_ldan rfl rfl rfl (h_lt (i := 0) hb (by decide)) ?_
      refine x_getf rfl rfl (h_lt (i := 0) hb (by decide)) (hp_at (i := 0) hh rfl rfl) rfl ?_
      refine x_b 1 (S2 := (29, [some (.ref b), some (.int x1), some (.int x2), none], [.int 0, .ref (b + 2), .int 0, .ref b], (hput h b (Md.cells b B)), c, n)) rfl ?_
      obtain ⟨i10, h11, hr⟩ := bd_some hr
      refine x_iald rfl rfl (h_lt (i := 2) hb (by decide)) (hp_at (i := 2) hh rfl rfl) h11 ?_
      refine x_b 2 (S2 := (32, [some (.ref b), some (.int x1), some (.int x2), none], [.int ((B.read i10) - 1), .int 0, .ref b], (hput h b (Md.cells b B)), c, n)) rfl ?_
      obtain ⟨v13, h12, hr⟩ := bd_some hr
      refine x_c0 (m_148 (hp_rg hb hh rfl) h12) rfl rfl rfl rfl (am_recv_v (h_lt (i := 0) hb (by decide)) (hp_at (i := 0) hh rfl rfl) rfl) (by omega) ?_
      rcases ite_some hr with ⟨h14, hr⟩ | ⟨h14, hr⟩
      · refine x_zt rfl rfl (decide_eq_true h14) ?_
        refine x_fg (Lq.s (Lq.s (Lq.n (Lq.s Lq.nil)))) ?_
        exact j_157_11_j68 hd hb hh hr ka kx
      · refine x_zf rfl rfl (decide_eq_false h14) ?_
        refine x_ldan rfl rfl rfl (h_lt (i := 0) hb (by decide)) ?_
        refine x_getf rfl rfl (h_lt (i := 0) hb (by decide)) (hp_at (i := 0) hh rfl rfl) rfl ?_
        refine x_b 1 (S2 := (43, [some (.ref b), some (.int x1), some (.int x2), none], [.int x1, .int B.number], (hput h b (Md.cells b B)), c, n)) rfl ?_
        rcases ite_some hr with ⟨h24, hr⟩ | ⟨h24, hr⟩
        · refine x_ct rfl rfl (decide_eq_true h24) ?_
          refine x_fg (Lq.s (Lq.s (Lq.n (Lq.s Lq.nil)))) ?_
          exact j_157_11_j64 hd hb hh hr ka kx
        · refine x_cf rfl rfl (decide_eq_false h24) ?_
          refine x_ldan rfl rfl rfl (h_lt (i := 0) hb (by decide)) ?_
          refine x_getf rfl rfl (h_lt (i := 0) hb (by decide)) (hp_at (i := 0) hh rfl rfl) rfl ?_
          refine x_b 3 (S2 := (53, [some (.ref b), some (.int x1), some (.int x2), none], [.int (1 + x1), .ref (b + 2)], (hput h b (Md.cells b B)), c, n)) rfl ?_
          obtain ⟨i27, h28, hr⟩ := bd_some hr
          refine x_iald rfl rfl (h_lt (i := 2) hb (by decide)) (hp_at (i := 2) hh rfl rfl) h28 ?_
          refine x_ldan rfl rfl rfl (h_lt (i := 0) hb (by decide)) ?_
          refine x_getf rfl rfl (h_lt (i := 0) hb (by decide)) (hp_at (i := 0) hh rfl rfl) rfl ?_
          obtain ⟨v30, h29, hr⟩ := bd_some hr
          refine x_c0 (m_136 h29) rfl rfl rfl rfl rfl (by omega) ?_
          rcases ite_some hr with ⟨h31, hr⟩ | ⟨h31, hr⟩
          · refine x_zt rfl rfl (decide_eq_true h31) ?_
            refine x_fg (Lq.s (Lq.s (Lq.n (Lq.s Lq.nil)))) ?_
            exact j_157_11_j68 hd hb hh hr ka kx
          · refine x_zf rfl rfl (decide_eq_false h31) ?_
            refine x_fg (Lq.s (Lq.s (Lq.n (Lq.s Lq.nil)))) ?_
            exact j_157_11_j64 hd hb hh hr ka kx
def J_157_0_j105 (B : Md) : Option (Md) :=
  some B
theorem j_157_0_j105 {d : Nat} (hd : 5 ≤ d) {scr : ASc} {res : ARe} {c n : Nat} {h : AHp} {b : Nat} (hb : b + 17 ≤ am_SB) (hh : b + 17 ≤ h.length) {B : Md} {o : Md} (hr : J_157_0_j105 B = some o) (kr : res = (.inl (none), hput h b (Md.cells b o), c, n)) : Ex d am_M157 scr (105, [none, none, none, none], [], (hput h b (Md.cells b B)), c, n) res := by
  delta J_157_0_j105 at hr
  cases hr
  rw [kr]
  exact x_ret rfl rfl rfl
/-- PebbleProofsModel.edgeStatement()V -/
def F_157 (B : Md) : Option (Md) :=
  (F_144 B).bind fun B2 =>
  (F_155 B2).bind fun (v4, B5) =>
  (lw (G_157_11 ) 200000 (v4, 1, B5)).bind fun B33 =>
  J_157_0_j105 B33
theorem f_157 {d : Nat} (hd : 5 ≤ d) {scr : ASc} {res : ARe} {c n : Nat} {h : AHp} {b : Nat} (hb : b + 17 ≤ am_SB) (hh : b + 17 ≤ h.length) {B : Md} {o : Md} (hr : F_157 B = some o) (kr : res = (.inl (none), hput h b (Md.cells b o), c, n)) : Ex d am_M157 scr (0, [some (.ref b), none, none, none], [], (hput h b (Md.cells b B)), c, n) res := by
  delta F_157 at hr
  refine x_ldan rfl rfl rfl (h_lt (i := 0) hb (by decide)) ?_
  obtain ⟨B2, h1, hr⟩ := bd_some hr
  refine x_c0 (m_144 hb hh h1) rfl rfl rfl rfl (am_recv_v (h_lt (i := 0) hb (by decide)) (hp_at (i := 0) hh rfl rfl) rfl) (by omega) ?_
  refine x_ldan rfl rfl rfl (h_lt (i := 0) hb (by decide)) ?_
  obtain ⟨⟨v4, B5⟩, h3, hr⟩ := bd_some hr
  refine x_c0 (m_155 hb hh h3) rfl rfl rfl rfl (am_recv_v (h_lt (i := 0) hb (by decide)) (hp_at (i := 0) hh rfl rfl) rfl) (by omega) ?_
  refine x_b 3 (S2 := (11, [some (.ref b), some (.int v4), some (.int 1), none], [], (hput h b (Md.cells b B5)), c, n)) rfl ?_
  refine x_fg (Lq.s (Lq.s (Lq.s (Lq.s Lq.nil)))) ?_
  obtain ⟨B33, h32, hr⟩ := bd_some hr
  refine x_lw (P := P_157_11 h b c n ) (Q := fun x => Ex d am_M157 scr (PX_157_11 h b c n  x) res) (fun s o h1 ka kx => g_157_11 hd hb hh h1 ka kx) _ (v4, 1, B5) _ h32 ?_
  show Ex d am_M157 scr (105, [none, none, none, none], [], (hput h b (Md.cells b B33)), c, n) res
  refine x_fg (Lq.s (Lq.s (Lq.s (Lq.s Lq.nil)))) ?_
  exact j_157_0_j105 hd hb hh hr kr
theorem m_157 {h : AHp} {b : Nat} (hb : b + 17 ≤ am_SB) (hh : b + 17 ≤ h.length) {B : Md} {o : Md} (hr : F_157 B = some o) : Rn 6 157 [.ref b] (hput h b (Md.cells b B)) (.inl (none), hput h b (Md.cells b o), 0, 0) :=
  x_meth (M := am_M157) rfl (show 1 ≤ 4 by decide) (f_157 (Nat.le_refl _) hb hh hr rfl)
def J_158_0_j35 (B : Md) : Option (Md) :=
  some B
theorem j_158_0_j35 {d : Nat} (hd : 5 ≤ d) {scr : ASc} {res : ARe} {c n : Nat} {h : AHp} {b : Nat} (hb : b + 17 ≤ am_SB) (hh : b + 17 ≤ h.length) {B : Md} {o : Md} (hr : J_158_0_j35 B = some o) (kr : res = (.inl (none), hput h b (Md.cells b o), c, n)) : Ex d am_M158 scr (35, [none, none, none], [], (hput h b (Md.cells b B)), c, n) res := by
  delta J_158_0_j35 at hr
  cases hr
  rw [kr]
  exact x_ret rfl rfl rfl
/-- PebbleProofsModel.pileStatement()V -/
def F_158 (B : Md) : Option (Md) :=
  (F_144 B).bind fun B2 =>
  (F_155 B2).bind fun (v4, B5) =>
  (F_149 B5 0 999).bind fun (v7, B8) =>
  (F_146 B8).bind fun v10 =>
  if v10 = 0 then
    J_158_0_j35 B8
  else
    (ix (7 + v4) 93).bind fun i12 =>
    (some (B8.w_read (upd B8.read i12 v7))).bind fun B14 =>
    J_158_0_j35 B14
theorem f_158 {d : Nat} (hd : 5 ≤ d) {scr : ASc} {res : ARe} {c n : Nat} {h : AHp} {b : Nat} (hb : b + 17 ≤ am_SB) (hh : b + 17 ≤ h.length) {B : Md} {o : Md} (hr : F_158 B = some o) (kr : res = (.inl (none), hput h b (Md.cells b o), c, n)) : Ex d am_M158 scr (0, [some (.ref b), none, none], [], (hput h b (Md.cells b B)), c, n) res := by
  delta F_158 at hr
  refine x_ldan rfl rfl rfl (h_lt (i := 0) hb (by decide)) ?_
  obtain ⟨B2, h1, hr⟩ := bd_some hr
  refine x_c0 (m_144 hb hh h1) rfl rfl rfl rfl (am_recv_v (h_lt (i := 0) hb (by decide)) (hp_at (i := 0) hh rfl rfl) rfl) (by omega) ?_
  refine x_ldan rfl rfl rfl (h_lt (i := 0) hb (by decide)) ?_
  obtain ⟨⟨v4, B5⟩, h3, hr⟩ := bd_some hr
  refine x_c0 (m_155 hb hh h3) rfl rfl rfl rfl (am_recv_v (h_lt (i := 0) hb (by decide)) (hp_at (i := 0) hh rfl rfl) rfl) (by omega) ?_
  refine x_b 1 (S2 := (9, [some (.ref b), some (.int v4), none], [], (hput h b (Md.cells b B5)), c, n)) rfl ?_
  refine x_ldan rfl rfl rfl (h_lt (i := 0) hb (by decide)) ?_
  refine x_b 2 (S2 := (14, [some (.ref b), some (.int v4), none], [.int 999, .int 0, .ref b], (hput h b (Md.cells b B5)), c, n)) rfl ?_
  obtain ⟨⟨v7, B8⟩, h6, hr⟩ := bd_some hr
  refine x_c0 (m_149 hb hh h6) rfl rfl rfl rfl (am_recv_v (h_lt (i := 0) hb (by decide)) (hp_at (i := 0) hh rfl rfl) rfl) (by omega) ?_
  refine x_b 1 (S2 := (18, [some (.ref b), some (.int v4), some (.int v7)], [], (hput h b (Md.cells b B8)), c, n)) rfl ?_
  refine x_ldan rfl rfl rfl (h_lt (i := 0) hb (by decide)) ?_
  obtain ⟨v10, h9, hr⟩ := bd_some hr
  refine x_c0 (m_146 (hp_rg hb hh rfl) h9) rfl rfl rfl rfl (am_recv_v (h_lt (i := 0) hb (by decide)) (hp_at (i := 0) hh rfl rfl) rfl) (by omega) ?_
  rcases ite_some hr with ⟨h11, hr⟩ | ⟨h11, hr⟩
  · refine x_zt rfl rfl (decide_eq_true h11) ?_
    refine x_fg (Lq.n (Lq.n (Lq.n Lq.nil))) ?_
    exact j_158_0_j35 hd hb hh hr kr
  · refine x_zf rfl rfl (decide_eq_false h11) ?_
    refine x_ldan rfl rfl rfl (h_lt (i := 0) hb (by decide)) ?_
    refine x_getf rfl rfl (h_lt (i := 0) hb (by decide)) (hp_at (i := 0) hh rfl rfl) rfl ?_
    refine x_b 4 (S2 := (34, [some (.ref b), some (.int v4), some (.int v7)], [.int v7, .int (7 + v4), .ref (b + 2)], (hput h b (Md.cells b B8)), c, n)) rfl ?_
    obtain ⟨i12, h13, hr⟩ := bd_some hr
    obtain ⟨B14, h15, hr⟩ := bd_some hr
    refine x_iast (H := (hput h b (Md.cells b B14))) rfl rfl (h_lt (i := 2) hb (by decide)) (hp_at (i := 2) hh rfl rfl) h13 (hp_set (i := 2) hh rfl (by decide) (Md.s_read h15)) ?_
    refine x_fg (Lq.n (Lq.n (Lq.n Lq.nil))) ?_
    exact j_158_0_j35 hd hb hh hr kr
theorem m_158 {h : AHp} {b : Nat} (hb : b + 17 ≤ am_SB) (hh : b + 17 ≤ h.length) {B : Md} {o : Md} (hr : F_158 B = some o) : Rn 6 158 [.ref b] (hput h b (Md.cells b B)) (.inl (none), hput h b (Md.cells b o), 0, 0) :=
  x_meth (M := am_M158) rfl (show 1 ≤ 3 by decide) (f_158 (Nat.le_refl _) hb hh hr rfl)
abbrev P_159_56 (h : AHp) (b : Nat) (c n : Nat) (x1 : Int32) (x2 : Int32) (s : (Md)) : ASt := (56, [some (.ref b), some (.int x1), some (.int x2), none, none, none], [], (hput h b (Md.cells b s)), c, n)
abbrev PX_159_56 (h : AHp) (b : Nat) (c n : Nat) (x1 : Int32) (x2 : Int32) (s : (Md)) : ASt := (139, [none, none, none, none, none, none], [], (hput h b (Md.cells b s)), c, n)
def J_159_56_j136 (B : Md) (x1 : Int32) (x2 : Int32) : Option (((Md)) ⊕ ((Md))) :=
  some (.inl B)
theorem j_159_56_j136 {d : Nat} (hd : 5 ≤ d) {scr : ASc} {res : ARe} {c n : Nat} {h : AHp} {b : Nat} (hb : b + 17 ≤ am_SB) (hh : b + 17 ≤ h.length) {B : Md} {x1 : Int32} {x2 : Int32} {o : ((Md)) ⊕ ((Md))} (hr : J_159_56_j136 B x1 x2 = some o) (ka : ∀ s, o = .inl s → Ex d am_M159 scr (P_159_56 h b c n x1 x2 s) res) (kx : ∀ s, o = .inr s → Ex d am_M159 scr (PX_159_56 h b c n x1 x2 s) res) : Ex d am_M159 scr (136, [some (.ref b), some (.int x1), some (.int x2), none, none, none], [], (hput h b (Md.cells b B)), c, n) res := by
  delta J_159_56_j136 at hr
  refine x_b 1 (S2 := (56, [some (.ref b), some (.int x1), some (.int x2), none, none, none], [], (hput h b (Md.cells b B)), c, n)) rfl ?_
  refine x_fg (Lq.s (Lq.s (Lq.s (Lq.s (Lq.s (Lq.s Lq.nil)))))) ?_
  exact ka B (Option.some.inj hr).symm
def J_159_56_j84 (B : Md) (x1 : Int32) (x2 : Int32) : Option (((Md)) ⊕ ((Md))) :=
  (F_155 B).bind fun (v24, B25) =>
  (F_155 B25).bind fun (v27, B28) =>
  (F_149 B28 0 64).bind fun (v30, B31) =>
  (F_146 B31).bind fun v33 =>
  if v33 = 0 then
    J_159_56_j136 B31 x1 x2
  else
    (ix ((x2 + 1) + v24) 93).bind fun i35 =>
    (some (B31.w_read (upd B31.read i35 v30))).bind fun B37 =>
    (ix ((x2 + 7) + v24) 93).bind fun i39 =>
    (some (B37.w_read (upd B37.read i39 v27))).bind fun B41 =>
    J_159_56_j136 B41 x1 x2
theorem j_159_56_j84 {d : Nat} (hd : 5 ≤ d) {scr : ASc} {res : ARe} {c n : Nat} {h : AHp} {b : Nat} (hb : b + 17 ≤ am_SB) (hh : b + 17 ≤ h.length) {B : Md} {x1 : Int32} {x2 : Int32} {o : ((Md)) ⊕ ((Md))} (hr : J_159_56_j84 B x1 x2 = some o) (ka : ∀ s, o = .inl s → Ex d am_M159 scr (P_159_56 h b c n x1 x2 s) res) (kx : ∀ s, o = .inr s → Ex d am_M159 scr (PX_159_56 h b c n x1 x2 s) res) : Ex d am_M159 scr (84, [some (.ref b), some (.int x1), some (.int x2), none, none, none], [], (hput h b (Md.cells b B)), c, n) res := by
  delta J_159_56_j84 at hr
  refine x_ldan rfl rfl rfl (h_lt (i := 0) hb (by decide)) ?_
  obtain ⟨⟨v24, B25⟩, h23, hr⟩ := bd_some hr
  refine x_c0 (m_155 hb hh h23) rfl rfl rfl rfl (am_recv_v (h_lt (i := 0) hb (by decide)) (hp_at (i := 0) hh rfl rfl) rfl) (by omega) ?_
  refine x_b 1 (S2 := (89, [some (.ref b), some (.int x1), some (.int x2), some (.int v24), none, none], [], (hput h b (Md.cells b B25)), c, n)) rfl ?_
  refine x_ldan rfl rfl rfl (h_lt (i := 0) hb (by decide)) ?_
  obtain ⟨⟨v27, B28⟩, h26, hr⟩ := bd_some hr
  refine x_c0 (m_155 hb hh h26) rfl rfl rfl rfl (am_recv_v (h_lt (i := 0) hb (by decide)) (hp_at (i := 0) hh rfl rfl) rfl) (by omega) ?_
  refine x_b 1 (S2 := (95, [some (.ref b), some (.int x1), some (.int x2), some (.int v24), some (.int v27), none], [], (hput h b (Md.cells b B28)), c, n)) rfl ?_
  refine x_ldan rfl rfl rfl (h_lt (i := 0) hb (by decide)) ?_
  refine x_b 2 (S2 := (99, [some (.ref b), some (.int x1), some (.int x2), some (.int v24), some (.int v27), none], [.int 64, .int 0, .ref b], (hput h b (Md.cells b B28)), c, n)) rfl ?_
  obtain ⟨⟨v30, B31⟩, h29, hr⟩ := bd_some hr
  refine x_c0 (m_149 hb hh h29) rfl rfl rfl rfl (am_recv_v (h_lt (i := 0) hb (by decide)) (hp_at (i := 0) hh rfl rfl) rfl) (by omega) ?_
  refine x_b 1 (S2 := (104, [some (.ref b), some (.int x1), some (.int x2), some (.int v24), some (.int v27), some (.int v30)], [], (hput h b (Md.cells b B31)), c, n)) rfl ?_
  refine x_ldan rfl rfl rfl (h_lt (i := 0) hb (by decide)) ?_
  obtain ⟨v33, h32, hr⟩ := bd_some hr
  refine x_c0 (m_146 (hp_rg hb hh rfl) h32) rfl rfl rfl rfl (am_recv_v (h_lt (i := 0) hb (by decide)) (hp_at (i := 0) hh rfl rfl) rfl) (by omega) ?_
  rcases ite_some hr with ⟨h34, hr⟩ | ⟨h34, hr⟩
  · refine x_zt rfl rfl (decide_eq_true h34) ?_
    refine x_fg (Lq.s (Lq.s (Lq.s (Lq.n (Lq.n (Lq.n Lq.nil)))))) ?_
    exact j_159_56_j136 hd hb hh hr ka kx
  · refine x_zf rfl rfl (decide_eq_false h34) ?_
    refine x_ldan rfl rfl rfl (h_lt (i := 0) hb (by decide)) ?_
    refine x_getf rfl rfl (h_lt (i := 0) hb (by decide)) (hp_at (i := 0) hh rfl rfl) rfl ?_
    refine x_b 6 (S2 := (122, [some (.ref b), some (.int x1), some (.int x2), some (.int v24), some (.int v27), some (.int v30)], [.int v30, .int ((x2 + 1) + v24), .ref (b + 2)], (hput h b (Md.cells b B31)), c, n)) rfl ?_
    obtain ⟨i35, h36, hr⟩ := bd_some hr
    obtain ⟨B37, h38, hr⟩ := bd_some hr
    refine x_iast (H := (hput h b (Md.cells b B37))) rfl rfl (h_lt (i := 2) hb (by decide)) (hp_at (i := 2) hh rfl rfl) h36 (hp_set (i := 2) hh rfl (by decide) (Md.s_read h38)) ?_
    refine x_ldan rfl rfl rfl (h_lt (i := 0) hb (by decide)) ?_
    refine x_getf rfl rfl (h_lt (i := 0) hb (by decide)) (hp_at (i := 0) hh rfl rfl) rfl ?_
    refine x_b 6 (S2 := (135, [some (.ref b), some (.int x1), some (.int x2), some (.int v24), some (.int v27), some (.int v30)], [.int v27, .int ((x2 + 7) + v24), .ref (b + 2)], (hput h b (Md.cells b B37)), c, n)) rfl ?_
    obtain ⟨i39, h40, hr⟩ := bd_some hr
    obtain ⟨B41, h42, hr⟩ := bd_some hr
    refine x_iast (H := (hput h b (Md.cells b B41))) rfl rfl (h_lt (i := 2) hb (by decide)) (hp_at (i := 2) hh rfl rfl) h40 (hp_set (i := 2) hh rfl (by decide) (Md.s_read h42)) ?_
    refine x_fg (Lq.s (Lq.s (Lq.s (Lq.n (Lq.n (Lq.n Lq.nil)))))) ?_
    exact j_159_56_j136 hd hb hh hr ka kx
def G_159_56 (x1 : Int32) (x2 : Int32) (s : (Md)) : Option (((Md)) ⊕ ((Md))) := 
  match s with
  | B =>
    (F_146 B).bind fun v17 =>
    if v17 = 0 then
      some (.inr B)
    else
      if ¬ B.kind = 2 then
        some (.inr B)
      else
        (F_148 B x1 x1).bind fun v21 =>
        if v21 = 0 then
          J_159_56_j84 B x1 x2
        else
          (F_145 B).bind fun B44 =>
          J_159_56_j84 B44 x1 x2
theorem g_159_56 {d : Nat} (hd : 5 ≤ d) {scr : ASc} {res : ARe} {c n : Nat} {h : AHp} {b : Nat} (hb : b + 17 ≤ am_SB) (hh : b + 17 ≤ h.length) {x1 : Int32} {x2 : Int32} {s : (Md)} {o : ((Md)) ⊕ ((Md))} (hr : G_159_56 x1 x2 s = some o) (ka : ∀ s, o = .inl s → Ex d am_M159 scr (P_159_56 h b c n x1 x2 s) res) (kx : ∀ s, o = .inr s → Ex d am_M159 scr (PX_159_56 h b c n x1 x2 s) res) : Ex d am_M159 scr (P_159_56 h b c n x1 x2 s) res := by
  delta G_159_56 at hr
  show Ex d am_M159 scr (56, [some (.ref b), some (.int x1), some (.int x2), none, none, none], [], (hput h b (Md.cells b s)), c, n) res
  refine x_ldan rfl rfl rfl (h_lt (i := 0) hb (by decide)) ?_
  obtain ⟨v17, h16, hr⟩ := bd_some hr
  refine x_c0 (m_146 (hp_rg hb hh rfl) h16) rfl rfl rfl rfl (am_recv_v (h_lt (i := 0) hb (by decide)) (hp_at (i := 0) hh rfl rfl) rfl) (by omega) ?_
  rcases ite_some hr with ⟨h18, hr⟩ | ⟨h18, hr⟩
  · refine x_zt rfl rfl (decide_eq_true h18) ?_
    refine x_fg (Lq.n (Lq.n (Lq.n (Lq.s (Lq.s (Lq.s Lq.nil)))))) ?_
    exact kx s (Option.some.inj hr).symm
  · refine x_zf rfl rfl (decide_eq_false h18) ?_
    refine x_ldan rfl rfl rfl (h_lt (i := 0) hb (by decide)) ?_
    refine x_getf rfl rfl (h_lt (i := 0) hb (by decide)) (hp_at (i := 0) hh rfl rfl) rfl ?_
    refine x_b 1 (S2 := (68, [some (.ref b), some (.int x1), some (.int x2), none, none, none], [.int 2, .int s.kind], (hput h b (Md.cells b s)), c, n)) rfl ?_
    rcases ite_some hr with ⟨h19, hr⟩ | ⟨h19, hr⟩
    · refine x_ct rfl rfl (decide_eq_true h19) ?_
      refine x_fg (Lq.n (Lq.n (Lq.n (Lq.s (Lq.s (Lq.s Lq.nil)))))) ?_
      exact kx s (Option.some.inj hr).symm
    · refine x_cf rfl rfl (decide_eq_false h19) ?_
      refine x_ldan rfl rfl rfl (h_lt (i := 0) hb (by decide)) ?_
      refine x_b 2 (S2 := (74, [some (.ref b), some (.int x1), some (.int x2), none, none, none], [.int x1, .int x1, .ref b], (hput h b (Md.cells b s)), c, n)) rfl ?_
      obtain ⟨v21, h20, hr⟩ := bd_some hr
      refine x_c0 (m_148 (hp_rg hb hh rfl) h20) rfl rfl rfl rfl (am_recv_v (h_lt (i := 0) hb (by decide)) (hp_at (i := 0) hh rfl rfl) rfl) (by omega) ?_
      rcases ite_some hr with ⟨h22, hr⟩ | ⟨h22, hr⟩
      · refine x_zt rfl rfl (decide_eq_true h22) ?_
        refine x_fg (Lq.s (Lq.s (Lq.s (Lq.s (Lq.s (Lq.s Lq.nil)))))) ?_
        exact j_159_56_j84 hd hb hh hr ka kx
      · refine x_zf rfl rfl (decide_eq_false h22) ?_
        refine x_ldan rfl rfl rfl (h_lt (i := 0) hb (by decide)) ?_
        obtain ⟨B44, h43, hr⟩ := bd_some hr
        refine x_c0 (m_145 hb hh h43) rfl rfl rfl rfl (am_recv_v (h_lt (i := 0) hb (by decide)) (hp_at (i := 0) hh rfl rfl) rfl) (by omega) ?_
        refine x_fg (Lq.s (Lq.s (Lq.s (Lq.s (Lq.s (Lq.s Lq.nil)))))) ?_
        exact j_159_56_j84 hd hb hh hr ka kx
def J_159_0_j139 (B : Md) : Option (Md) :=
  some B
theorem j_159_0_j139 {d : Nat} (hd : 5 ≤ d) {scr : ASc} {res : ARe} {c n : Nat} {h : AHp} {b : Nat} (hb : b + 17 ≤ am_SB) (hh : b + 17 ≤ h.length) {B : Md} {o : Md} (hr : J_159_0_j139 B = some o) (kr : res = (.inl (none), hput h b (Md.cells b o), c, n)) : Ex d am_M159 scr (139, [none, none, none, none, none, none], [], (hput h b (Md.cells b B)), c, n) res := by
  delta J_159_0_j139 at hr
  cases hr
  rw [kr]
  exact x_ret rfl rfl rfl
/-- PebbleProofsModel.strategyStatement()V -/
def F_159 (B : Md) : Option (Md) :=
  (ix 14 93).bind fun i1 =>
  if ¬ (B.read i1) = 6 then
    (F_144 B).bind fun B5 =>
    (F_155 B5).bind fun (v7, B8) =>
    (F_146 B8).bind fun v10 =>
    if ¬ v10 = 0 then
      (F_152 93 B8.read v7).bind fun B13 =>
      (some (B8.w_read B13)).bind fun B14 =>
      (lw (G_159_56 v7 (15 + (13 * (B8.read i1)))) 200000 B14).bind fun B46 =>
      J_159_0_j139 B46
    else
      some B8
  else
    (F_145 B).bind fun B49 =>
    some B49
theorem f_159 {d : Nat} (hd : 5 ≤ d) {scr : ASc} {res : ARe} {c n : Nat} {h : AHp} {b : Nat} (hb : b + 17 ≤ am_SB) (hh : b + 17 ≤ h.length) {B : Md} {o : Md} (hr : F_159 B = some o) (kr : res = (.inl (none), hput h b (Md.cells b o), c, n)) : Ex d am_M159 scr (0, [some (.ref b), none, none, none, none, none], [], (hput h b (Md.cells b B)), c, n) res := by
  delta F_159 at hr
  refine x_ldan rfl rfl rfl (h_lt (i := 0) hb (by decide)) ?_
  refine x_getf rfl rfl (h_lt (i := 0) hb (by decide)) (hp_at (i := 0) hh rfl rfl) rfl ?_
  refine x_b 1 (S2 := (6, [some (.ref b), none, none, none, none, none], [.int 14, .ref (b + 2)], (hput h b (Md.cells b B)), c, n)) rfl ?_
  obtain ⟨i1, h2, hr⟩ := bd_some hr
  refine x_iald rfl rfl (h_lt (i := 2) hb (by decide)) (hp_at (i := 2) hh rfl rfl) h2 ?_
  refine x_b 1 (S2 := (9, [some (.ref b), none, none, none, none, none], [.int 6, .int (B.read i1)], (hput h b (Md.cells b B)), c, n)) rfl ?_
  rcases ite_some hr with ⟨h3, hr⟩ | ⟨h3, hr⟩
  · refine x_ct rfl rfl (decide_eq_true h3) ?_
    refine x_ldan rfl rfl rfl (h_lt (i := 0) hb (by decide)) ?_
    obtain ⟨B5, h4, hr⟩ := bd_some hr
    refine x_c0 (m_144 hb hh h4) rfl rfl rfl rfl (am_recv_v (h_lt (i := 0) hb (by decide)) (hp_at (i := 0) hh rfl rfl) rfl) (by omega) ?_
    refine x_ldan rfl rfl rfl (h_lt (i := 0) hb (by decide)) ?_
    obtain ⟨⟨v7, B8⟩, h6, hr⟩ := bd_some hr
    refine x_c0 (m_155 hb hh h6) rfl rfl rfl rfl (am_recv_v (h_lt (i := 0) hb (by decide)) (hp_at (i := 0) hh rfl rfl) rfl) (by omega) ?_
    refine x_b 1 (S2 := (26, [some (.ref b), some (.int v7), none, none, none, none], [], (hput h b (Md.cells b B8)), c, n)) rfl ?_
    refine x_ldan rfl rfl rfl (h_lt (i := 0) hb (by decide)) ?_
    obtain ⟨v10, h9, hr⟩ := bd_some hr
    refine x_c0 (m_146 (hp_rg hb hh rfl) h9) rfl rfl rfl rfl (am_recv_v (h_lt (i := 0) hb (by decide)) (hp_at (i := 0) hh rfl rfl) rfl) (by omega) ?_
    rcases ite_some hr with ⟨h11, hr⟩ | ⟨h11, hr⟩
    · refine x_zt rfl rfl (decide_eq_true h11) ?_
      refine x_b 2 (S2 := (38, [some (.ref b), some (.int v7), none, none, none, none], [.int 13, .int 15], (hput h b (Md.cells b B8)), c, n)) rfl ?_
      refine x_ldan rfl rfl rfl (h_lt (i := 0) hb (by decide)) ?_
      refine x_getf rfl rfl (h_lt (i := 0) hb (by decide)) (hp_at (i := 0) hh rfl rfl) rfl ?_
      refine x_b 1 (S2 := (44, [some (.ref b), some (.int v7), none, none, none, none], [.int 14, .ref (b + 2), .int 13, .int 15], (hput h b (Md.cells b B8)), c, n)) rfl ?_
      refine x_iald rfl rfl (h_lt (i := 2) hb (by decide)) (hp_at (i := 2) hh rfl rfl) h2 ?_
      refine x_b 3 (S2 := (48, [some (.ref b), some (.int v7), some (.int (15 + (13 * (B8.read i1)))), none, none, none], [], (hput h b (Md.cells b B8)), c, n)) rfl ?_
      refine x_ldan rfl rfl rfl (h_lt (i := 0) hb (by decide)) ?_
      refine x_getf rfl rfl (h_lt (i := 0) hb (by decide)) (hp_at (i := 0) hh rfl rfl) rfl ?_
      refine x_b 1 (S2 := (53, [some (.ref b), some (.int v7), some (.int (15 + (13 * (B8.read i1)))), none, none, none], [.int v7, .ref (b + 2)], (hput h b (Md.cells b B8)), c, n)) rfl ?_
      obtain ⟨B13, h12, hr⟩ := bd_some hr
      obtain ⟨B14, h15, hr⟩ := bd_some hr
      refine x_c0 (ar_call (H' := (hput h b (Md.cells b B14))) (fun hb hh => m_152 hb hh h12) (h_lt (i := 2) hb (by decide)) (hp_at (i := 2) hh rfl rfl) (hp_set (i := 2) hh rfl (by decide) (Md.s_read h15))) rfl rfl rfl rfl rfl (by omega) ?_
      refine x_fg (Lq.s (Lq.s (Lq.s (Lq.s (Lq.s (Lq.s Lq.nil)))))) ?_
      obtain ⟨B46, h45, hr⟩ := bd_some hr
      refine x_lw (P := P_159_56 h b c n v7 (15 + (13 * (B8.read i1)))) (Q := fun x => Ex d am_M159 scr (PX_159_56 h b c n v7 (15 + (13 * (B8.read i1))) x) res) (fun s o h1 ka kx => g_159_56 hd hb hh h1 ka kx) _ B14 _ h45 ?_
      show Ex d am_M159 scr (139, [none, none, none, none, none, none], [], (hput h b (Md.cells b B46)), c, n) res
      refine x_fg (Lq.s (Lq.s (Lq.s (Lq.s (Lq.s (Lq.s Lq.nil)))))) ?_
      exact j_159_0_j139 hd hb hh hr kr
    · refine x_zf rfl rfl (decide_eq_false h11) ?_
      cases hr
      rw [kr]
      exact x_ret rfl rfl rfl
  · refine x_cf rfl rfl (decide_eq_false h3) ?_
    refine x_ldan rfl rfl rfl (h_lt (i := 0) hb (by decide)) ?_
    obtain ⟨B49, h48, hr⟩ := bd_some hr
    refine x_c0 (m_145 hb hh h48) rfl rfl rfl rfl (am_recv_v (h_lt (i := 0) hb (by decide)) (hp_at (i := 0) hh rfl rfl) rfl) (by omega) ?_
    cases hr
    rw [kr]
    exact x_ret rfl rfl rfl
theorem m_159 {h : AHp} {b : Nat} (hb : b + 17 ≤ am_SB) (hh : b + 17 ≤ h.length) {B : Md} {o : Md} (hr : F_159 B = some o) : Rn 6 159 [.ref b] (hput h b (Md.cells b B)) (.inl (none), hput h b (Md.cells b o), 0, 0) :=
  x_meth (M := am_M159) rfl (show 1 ≤ 6 by decide) (f_159 (Nat.le_refl _) hb hh hr rfl)
def J_160_0_j52 (B : Md) : Option (Md) :=
  some B
theorem j_160_0_j52 {d : Nat} (hd : 7 ≤ d) {scr : ASc} {res : ARe} {c n : Nat} {h : AHp} {b : Nat} (hb : b + 17 ≤ am_SB) (hh : b + 17 ≤ h.length) {B : Md} {o : Md} (hr : J_160_0_j52 B = some o) (kr : res = (.inl (none), hput h b (Md.cells b o), c, n)) : Ex d am_M160 scr (52, [none], [], (hput h b (Md.cells b B)), c, n) res := by
  delta J_160_0_j52 at hr
  cases hr
  rw [kr]
  exact x_ret rfl rfl rfl
/-- PebbleProofsModel.readStatement()V -/
def F_160 (B : Md) : Option (Md) :=
  (F_147 B 1).bind fun v2 =>
  if v2 = 0 then
    (F_147 B 2).bind fun v5 =>
    if v5 = 0 then
      (F_147 B 3).bind fun v8 =>
      if v8 = 0 then
        (F_145 B).bind fun B11 =>
        J_160_0_j52 B11
      else
        (F_159 B).bind fun B13 =>
        J_160_0_j52 B13
    else
      (F_158 B).bind fun B15 =>
      J_160_0_j52 B15
  else
    (F_157 B).bind fun B17 =>
    J_160_0_j52 B17
theorem f_160 {d : Nat} (hd : 7 ≤ d) {scr : ASc} {res : ARe} {c n : Nat} {h : AHp} {b : Nat} (hb : b + 17 ≤ am_SB) (hh : b + 17 ≤ h.length) {B : Md} {o : Md} (hr : F_160 B = some o) (kr : res = (.inl (none), hput h b (Md.cells b o), c, n)) : Ex d am_M160 scr (0, [some (.ref b)], [], (hput h b (Md.cells b B)), c, n) res := by
  delta F_160 at hr
  refine x_ldan rfl rfl rfl (h_lt (i := 0) hb (by decide)) ?_
  refine x_b 1 (S2 := (3, [some (.ref b)], [.ref (am_SB + 10 + 2 * 1), .ref b], (hput h b (Md.cells b B)), c, n)) rfl ?_
  obtain ⟨v2, h1, hr⟩ := bd_some hr
  refine x_c0 (m_147 (by decide) (hp_rg hb hh rfl) h1) rfl rfl rfl rfl (am_recv_v (h_lt (i := 0) hb (by decide)) (hp_at (i := 0) hh rfl rfl) rfl) (by omega) ?_
  rcases ite_some hr with ⟨h3, hr⟩ | ⟨h3, hr⟩
  · refine x_zt rfl rfl (decide_eq_true h3) ?_
    refine x_ldan rfl rfl rfl (h_lt (i := 0) hb (by decide)) ?_
    refine x_b 1 (S2 := (19, [some (.ref b)], [.ref (am_SB + 10 + 2 * 2), .ref b], (hput h b (Md.cells b B)), c, n)) rfl ?_
    obtain ⟨v5, h4, hr⟩ := bd_some hr
    refine x_c0 (m_147 (by decide) (hp_rg hb hh rfl) h4) rfl rfl rfl rfl (am_recv_v (h_lt (i := 0) hb (by decide)) (hp_at (i := 0) hh rfl rfl) rfl) (by omega) ?_
    rcases ite_some hr with ⟨h6, hr⟩ | ⟨h6, hr⟩
    · refine x_zt rfl rfl (decide_eq_true h6) ?_
      refine x_ldan rfl rfl rfl (h_lt (i := 0) hb (by decide)) ?_
      refine x_b 1 (S2 := (35, [some (.ref b)], [.ref (am_SB + 10 + 2 * 3), .ref b], (hput h b (Md.cells b B)), c, n)) rfl ?_
      obtain ⟨v8, h7, hr⟩ := bd_some hr
      refine x_c0 (m_147 (by decide) (hp_rg hb hh rfl) h7) rfl rfl rfl rfl (am_recv_v (h_lt (i := 0) hb (by decide)) (hp_at (i := 0) hh rfl rfl) rfl) (by omega) ?_
      rcases ite_some hr with ⟨h9, hr⟩ | ⟨h9, hr⟩
      · refine x_zt rfl rfl (decide_eq_true h9) ?_
        refine x_ldan rfl rfl rfl (h_lt (i := 0) hb (by decide)) ?_
        obtain ⟨B11, h10, hr⟩ := bd_some hr
        refine x_c0 (m_145 hb hh h10) rfl rfl rfl rfl (am_recv_v (h_lt (i := 0) hb (by decide)) (hp_at (i := 0) hh rfl rfl) rfl) (by omega) ?_
        refine x_fg (Lq.n Lq.nil) ?_
        exact j_160_0_j52 hd hb hh hr kr
      · refine x_zf rfl rfl (decide_eq_false h9) ?_
        refine x_ldan rfl rfl rfl (h_lt (i := 0) hb (by decide)) ?_
        obtain ⟨B13, h12, hr⟩ := bd_some hr
        refine x_c0 (m_159 hb hh h12) rfl rfl rfl rfl (am_recv_v (h_lt (i := 0) hb (by decide)) (hp_at (i := 0) hh rfl rfl) rfl) (by omega) ?_
        refine x_b 1 (S2 := (52, [some (.ref b)], [], (hput h b (Md.cells b B13)), c, n)) rfl ?_
        refine x_fg (Lq.n Lq.nil) ?_
        exact j_160_0_j52 hd hb hh hr kr
    · refine x_zf rfl rfl (decide_eq_false h6) ?_
      refine x_ldan rfl rfl rfl (h_lt (i := 0) hb (by decide)) ?_
      obtain ⟨B15, h14, hr⟩ := bd_some hr
      refine x_c0 (m_158 hb hh h14) rfl rfl rfl rfl (am_recv_v (h_lt (i := 0) hb (by decide)) (hp_at (i := 0) hh rfl rfl) rfl) (by omega) ?_
      refine x_b 1 (S2 := (52, [some (.ref b)], [], (hput h b (Md.cells b B15)), c, n)) rfl ?_
      refine x_fg (Lq.n Lq.nil) ?_
      exact j_160_0_j52 hd hb hh hr kr
  · refine x_zf rfl rfl (decide_eq_false h3) ?_
    refine x_ldan rfl rfl rfl (h_lt (i := 0) hb (by decide)) ?_
    obtain ⟨B17, h16, hr⟩ := bd_some hr
    refine x_c0 (m_157 hb hh h16) rfl rfl rfl rfl (am_recv_v (h_lt (i := 0) hb (by decide)) (hp_at (i := 0) hh rfl rfl) rfl) (by omega) ?_
    refine x_b 1 (S2 := (52, [some (.ref b)], [], (hput h b (Md.cells b B17)), c, n)) rfl ?_
    refine x_fg (Lq.n Lq.nil) ?_
    exact j_160_0_j52 hd hb hh hr kr
theorem m_160 {h : AHp} {b : Nat} (hb : b + 17 ≤ am_SB) (hh : b + 17 ≤ h.length) {B : Md} {o : Md} (hr : F_160 B = some o) : Rn 8 160 [.ref b] (hput h b (Md.cells b B)) (.inl (none), hput h b (Md.cells b o), 0, 0) :=
  x_meth (M := am_M160) rfl (show 1 ≤ 1 by decide) (f_160 (Nat.le_refl _) hb hh hr rfl)
abbrev P_161_22 (h : AHp) (b : Nat) (c n : Nat)  (s : (Md)) : ASt := (22, [some (.ref b)], [], (hput h b (Md.cells b s)), c, n)
abbrev PX_161_22 (h : AHp) (b : Nat) (c n : Nat)  (s : (Md)) : ASt := (62, [some (.ref b)], [], (hput h b (Md.cells b s)), c, n)
def G_161_22  (s : (Md)) : Option (((Md)) ⊕ ((Md))) := 
  match s with
  | B =>
    (F_146 B).bind fun v12 =>
    if v12 = 0 then
      some (.inr B)
    else
      if ¬ B.kind = 3 then
        some (.inr B)
      else
        (ix B.from_ 400).bind fun i15 =>
        if ¬ (B.buffer i15) = 59 then
          some (.inr B)
        else
          (F_144 B).bind fun B19 =>
          (F_160 B19).bind fun B21 =>
          some (.inl B21)
theorem g_161_22 {d : Nat} (hd : 8 ≤ d) {scr : ASc} {res : ARe} {c n : Nat} {h : AHp} {b : Nat} (hb : b + 17 ≤ am_SB) (hh : b + 17 ≤ h.length)  {s : (Md)} {o : ((Md)) ⊕ ((Md))} (hr : G_161_22  s = some o) (ka : ∀ s, o = .inl s → Ex d am_M161 scr (P_161_22 h b c n  s) res) (kx : ∀ s, o = .inr s → Ex d am_M161 scr (PX_161_22 h b c n  s) res) : Ex d am_M161 scr (P_161_22 h b c n  s) res := by
  delta G_161_22 at hr
  show Ex d am_M161 scr (22, [some (.ref b)], [], (hput h b (Md.cells b s)), c, n) res
  refine x_ldan rfl rfl rfl (h_lt (i := 0) hb (by decide)) ?_
  obtain ⟨v12, h11, hr⟩ := bd_some hr
  refine x_c0 (m_146 (hp_rg hb hh rfl) h11) rfl rfl rfl rfl (am_recv_v (h_lt (i := 0) hb (by decide)) (hp_at (i := 0) hh rfl rfl) rfl) (by omega) ?_
  rcases ite_some hr with ⟨h13, hr⟩ | ⟨h13, hr⟩
  · refine x_zt rfl rfl (decide_eq_true h13) ?_
    refine x_fg (Lq.s Lq.nil) ?_
    exact kx s (Option.some.inj hr).symm
  · refine x_zf rfl rfl (decide_eq_false h13) ?_
    refine x_ldan rfl rfl rfl (h_lt (i := 0) hb (by decide)) ?_
    refine x_getf rfl rfl (h_lt (i := 0) hb (by decide)) (hp_at (i := 0) hh rfl rfl) rfl ?_
    refine x_b 1 (S2 := (34, [some (.ref b)], [.int 3, .int s.kind], (hput h b (Md.cells b s)), c, n)) rfl ?_
    rcases ite_some hr with ⟨h14, hr⟩ | ⟨h14, hr⟩
    · refine x_ct rfl rfl (decide_eq_true h14) ?_
      refine x_fg (Lq.s Lq.nil) ?_
      exact kx s (Option.some.inj hr).symm
    · refine x_cf rfl rfl (decide_eq_false h14) ?_
      refine x_ldan rfl rfl rfl (h_lt (i := 0) hb (by decide)) ?_
      refine x_getf rfl rfl (h_lt (i := 0) hb (by decide)) (hp_at (i := 0) hh rfl rfl) rfl ?_
      refine x_ldan rfl rfl rfl (h_lt (i := 0) hb (by decide)) ?_
      refine x_getf rfl rfl (h_lt (i := 0) hb (by decide)) (hp_at (i := 0) hh rfl rfl) rfl ?_
      obtain ⟨i15, h16, hr⟩ := bd_some hr
      refine x_iald rfl rfl (h_lt (i := 1) hb (by decide)) (hp_at (i := 1) hh rfl rfl) h16 ?_
      refine x_b 1 (S2 := (48, [some (.ref b)], [.int 59, .int (s.buffer i15)], (hput h b (Md.cells b s)), c, n)) rfl ?_
      rcases ite_some hr with ⟨h17, hr⟩ | ⟨h17, hr⟩
      · refine x_ct rfl rfl (decide_eq_true h17) ?_
        refine x_fg (Lq.s Lq.nil) ?_
        exact kx s (Option.some.inj hr).symm
      · refine x_cf rfl rfl (decide_eq_false h17) ?_
        refine x_ldan rfl rfl rfl (h_lt (i := 0) hb (by decide)) ?_
        obtain ⟨B19, h18, hr⟩ := bd_some hr
        refine x_c0 (m_144 hb hh h18) rfl rfl rfl rfl (am_recv_v (h_lt (i := 0) hb (by decide)) (hp_at (i := 0) hh rfl rfl) rfl) (by omega) ?_
        refine x_ldan rfl rfl rfl (h_lt (i := 0) hb (by decide)) ?_
        obtain ⟨B21, h20, hr⟩ := bd_some hr
        refine x_c0 (m_160 hb hh h20) rfl rfl rfl rfl (am_recv_v (h_lt (i := 0) hb (by decide)) (hp_at (i := 0) hh rfl rfl) rfl) (by omega) ?_
        refine x_b 1 (S2 := (22, [some (.ref b)], [], (hput h b (Md.cells b B21)), c, n)) rfl ?_
        refine x_fg (Lq.s Lq.nil) ?_
        exact ka B21 (Option.some.inj hr).symm
def J_161_0_j90 (B : Md) : Option (Int32 × (Md)) :=
  some (B.wrong, B)
theorem j_161_0_j90 {d : Nat} (hd : 8 ≤ d) {scr : ASc} {res : ARe} {c n : Nat} {h : AHp} {b : Nat} (hb : b + 17 ≤ am_SB) (hh : b + 17 ≤ h.length) {B : Md} {o : Int32 × (Md)} (hr : J_161_0_j90 B = some o) (kr : res = (.inl (some (.int o.1)), hput h b (Md.cells b o.2), c, n)) : Ex d am_M161 scr (90, [some (.ref b)], [], (hput h b (Md.cells b B)), c, n) res := by
  delta J_161_0_j90 at hr
  refine x_ldan rfl rfl rfl (h_lt (i := 0) hb (by decide)) ?_
  refine x_getf rfl rfl (h_lt (i := 0) hb (by decide)) (hp_at (i := 0) hh rfl rfl) rfl ?_
  cases hr
  rw [kr]
  exact x_ret rfl rfl am_ret_i
def J_161_0_j86 (B : Md) : Option (Int32 × (Md)) :=
  (F_145 B).bind fun B30 =>
  J_161_0_j90 B30
theorem j_161_0_j86 {d : Nat} (hd : 8 ≤ d) {scr : ASc} {res : ARe} {c n : Nat} {h : AHp} {b : Nat} (hb : b + 17 ≤ am_SB) (hh : b + 17 ≤ h.length) {B : Md} {o : Int32 × (Md)} (hr : J_161_0_j86 B = some o) (kr : res = (.inl (some (.int o.1)), hput h b (Md.cells b o.2), c, n)) : Ex d am_M161 scr (86, [some (.ref b)], [], (hput h b (Md.cells b B)), c, n) res := by
  delta J_161_0_j86 at hr
  refine x_ldan rfl rfl rfl (h_lt (i := 0) hb (by decide)) ?_
  obtain ⟨B30, h29, hr⟩ := bd_some hr
  refine x_c0 (m_145 hb hh h29) rfl rfl rfl rfl (am_recv_v (h_lt (i := 0) hb (by decide)) (hp_at (i := 0) hh rfl rfl) rfl) (by omega) ?_
  refine x_fg (Lq.s Lq.nil) ?_
  exact j_161_0_j90 hd hb hh hr kr
def J_161_0_j62 (B : Md) : Option (Int32 × (Md)) :=
  (F_146 B).bind fun v26 =>
  if v26 = 0 then
    J_161_0_j90 B
  else
    if ¬ B.kind = 0 then
      J_161_0_j86 B
    else
      (F_154 93 B.read).bind fun v32 =>
      if ¬ v32 = 0 then
        J_161_0_j90 B
      else
        J_161_0_j86 B
theorem j_161_0_j62 {d : Nat} (hd : 8 ≤ d) {scr : ASc} {res : ARe} {c n : Nat} {h : AHp} {b : Nat} (hb : b + 17 ≤ am_SB) (hh : b + 17 ≤ h.length) {B : Md} {o : Int32 × (Md)} (hr : J_161_0_j62 B = some o) (kr : res = (.inl (some (.int o.1)), hput h b (Md.cells b o.2), c, n)) : Ex d am_M161 scr (62, [some (.ref b)], [], (hput h b (Md.cells b B)), c, n) res := by
  delta J_161_0_j62 at hr
  refine x_ldan rfl rfl rfl (h_lt (i := 0) hb (by decide)) ?_
  obtain ⟨v26, h25, hr⟩ := bd_some hr
  refine x_c0 (m_146 (hp_rg hb hh rfl) h25) rfl rfl rfl rfl (am_recv_v (h_lt (i := 0) hb (by decide)) (hp_at (i := 0) hh rfl rfl) rfl) (by omega) ?_
  rcases ite_some hr with ⟨h27, hr⟩ | ⟨h27, hr⟩
  · refine x_zt rfl rfl (decide_eq_true h27) ?_
    refine x_fg (Lq.s Lq.nil) ?_
    exact j_161_0_j90 hd hb hh hr kr
  · refine x_zf rfl rfl (decide_eq_false h27) ?_
    refine x_ldan rfl rfl rfl (h_lt (i := 0) hb (by decide)) ?_
    refine x_getf rfl rfl (h_lt (i := 0) hb (by decide)) (hp_at (i := 0) hh rfl rfl) rfl ?_
    rcases ite_some hr with ⟨h28, hr⟩ | ⟨h28, hr⟩
    · refine x_zt rfl rfl (decide_eq_true h28) ?_
      refine x_fg (Lq.s Lq.nil) ?_
      exact j_161_0_j86 hd hb hh hr kr
    · refine x_zf rfl rfl (decide_eq_false h28) ?_
      refine x_ldan rfl rfl rfl (h_lt (i := 0) hb (by decide)) ?_
      refine x_getf rfl rfl (h_lt (i := 0) hb (by decide)) (hp_at (i := 0) hh rfl rfl) rfl ?_
      obtain ⟨v32, h31, hr⟩ := bd_some hr
      refine x_c0 (m_154 (ar_rg (h_lt (i := 2) hb (by decide)) (hp_at (i := 2) hh rfl rfl)) h31) rfl rfl rfl rfl rfl (by omega) ?_
      rcases ite_some hr with ⟨h33, hr⟩ | ⟨h33, hr⟩
      · refine x_zt rfl rfl (decide_eq_true h33) ?_
        refine x_fg (Lq.s Lq.nil) ?_
        exact j_161_0_j90 hd hb hh hr kr
      · refine x_zf rfl rfl (decide_eq_false h33) ?_
        refine x_fg (Lq.s Lq.nil) ?_
        exact j_161_0_j86 hd hb hh hr kr
/-- PebbleProofsModel.parse()I -/
def F_161 (B : Md) : Option (Int32 × (Md)) :=
  (some (B.w_at 0)).bind fun B1 =>
  (some (B1.w_wrong (-1))).bind fun B3 =>
  (F_150 B3).bind fun B6 =>
  (F_144 B6).bind fun B8 =>
  (F_156 B8).bind fun B10 =>
  (lw (G_161_22 ) 200000 B10).bind fun B23 =>
  J_161_0_j62 B23
theorem f_161 {d : Nat} (hd : 8 ≤ d) {scr : ASc} {res : ARe} {c n : Nat} {h : AHp} {b : Nat} (hb : b + 17 ≤ am_SB) (hh : b + 17 ≤ h.length) {B : Md} {o : Int32 × (Md)} (hr : F_161 B = some o) (kr : res = (.inl (some (.int o.1)), hput h b (Md.cells b o.2), c, n)) : Ex d am_M161 scr (0, [some (.ref b)], [], (hput h b (Md.cells b B)), c, n) res := by
  delta F_161 at hr
  refine x_ldan rfl rfl rfl (h_lt (i := 0) hb (by decide)) ?_
  refine x_b 1 (S2 := (2, [some (.ref b)], [.int 0, .ref b], (hput h b (Md.cells b B)), c, n)) rfl ?_
  obtain ⟨B1, h2, hr⟩ := bd_some hr
  refine x_putf (H := (hput h b (Md.cells b B1))) rfl rfl (h_lt (i := 0) hb (by decide)) (hp_at (i := 0) hh rfl rfl) ⟨(show 3 < 28 by decide), rfl, rfl, nofun⟩ (hp_set (i := 0) hh rfl (by decide) (Md.s_at rfl h2)) ?_
  refine x_ldan rfl rfl rfl (h_lt (i := 0) hb (by decide)) ?_
  refine x_b 1 (S2 := (7, [some (.ref b)], [.int (-1), .ref b], (hput h b (Md.cells b B1)), c, n)) rfl ?_
  obtain ⟨B3, h4, hr⟩ := bd_some hr
  refine x_putf (H := (hput h b (Md.cells b B3))) rfl rfl (h_lt (i := 0) hb (by decide)) (hp_at (i := 0) hh rfl rfl) ⟨(show 7 < 28 by decide), rfl, rfl, nofun⟩ (hp_set (i := 0) hh rfl (by decide) (Md.s_wrong rfl h4)) ?_
  refine x_ldan rfl rfl rfl (h_lt (i := 0) hb (by decide)) ?_
  obtain ⟨B6, h5, hr⟩ := bd_some hr
  refine x_c0 (m_150 hb hh h5) rfl rfl rfl rfl (am_recv_v (h_lt (i := 0) hb (by decide)) (hp_at (i := 0) hh rfl rfl) rfl) (by omega) ?_
  refine x_ldan rfl rfl rfl (h_lt (i := 0) hb (by decide)) ?_
  obtain ⟨B8, h7, hr⟩ := bd_some hr
  refine x_c0 (m_144 hb hh h7) rfl rfl rfl rfl (am_recv_v (h_lt (i := 0) hb (by decide)) (hp_at (i := 0) hh rfl rfl) rfl) (by omega) ?_
  refine x_ldan rfl rfl rfl (h_lt (i := 0) hb (by decide)) ?_
  obtain ⟨B10, h9, hr⟩ := bd_some hr
  refine x_c0 (m_156 hb hh h9) rfl rfl rfl rfl (am_recv_v (h_lt (i := 0) hb (by decide)) (hp_at (i := 0) hh rfl rfl) rfl) (by omega) ?_
  refine x_fg (Lq.s Lq.nil) ?_
  obtain ⟨B23, h22, hr⟩ := bd_some hr
  refine x_lw (P := P_161_22 h b c n ) (Q := fun x => Ex d am_M161 scr (PX_161_22 h b c n  x) res) (fun s o h1 ka kx => g_161_22 hd hb hh h1 ka kx) _ B10 _ h22 ?_
  show Ex d am_M161 scr (62, [some (.ref b)], [], (hput h b (Md.cells b B23)), c, n) res
  refine x_fg (Lq.s Lq.nil) ?_
  exact j_161_0_j62 hd hb hh hr kr
theorem m_161 {h : AHp} {b : Nat} (hb : b + 17 ≤ am_SB) (hh : b + 17 ≤ h.length) {B : Md} {o : Int32 × (Md)} (hr : F_161 B = some o) : Rn 9 161 [.ref b] (hput h b (Md.cells b B)) (.inl (some (.int o.1)), hput h b (Md.cells b o.2), 0, 0) :=
  x_meth (M := am_M161) rfl (show 1 ≤ 1 by decide) (f_161 (Nat.le_refl _) hb hh hr rfl)
/-- PebbleProofsModel.errorPosition()I -/
def F_162 (B : Md) : Option (Int32 × (Md)) :=
  (some (B.w_thrown 0)).bind fun B1 =>
  (F_161 B1).bind fun (v4, B5) =>
  some (v4, B5)
theorem f_162 {d : Nat} (hd : 9 ≤ d) {scr : ASc} {res : ARe} {c n : Nat} {h : AHp} {b : Nat} (hb : b + 17 ≤ am_SB) (hh : b + 17 ≤ h.length) {B : Md} {o : Int32 × (Md)} (hr : F_162 B = some o) (kr : res = (.inl (some (.int o.1)), hput h b (Md.cells b o.2), c, n)) : Ex d am_M162 scr (0, [some (.ref b)], [], (hput h b (Md.cells b B)), c, n) res := by
  delta F_162 at hr
  refine x_ldan rfl rfl rfl (h_lt (i := 0) hb (by decide)) ?_
  refine x_b 1 (S2 := (2, [some (.ref b)], [.int 0, .ref b], (hput h b (Md.cells b B)), c, n)) rfl ?_
  obtain ⟨B1, h2, hr⟩ := bd_some hr
  refine x_putf (H := (hput h b (Md.cells b B1))) rfl rfl (h_lt (i := 0) hb (by decide)) (hp_at (i := 0) hh rfl rfl) ⟨(show 0 < 28 by decide), rfl, rfl, nofun⟩ (hp_set (i := 0) hh rfl (by decide) (Md.s_thrown rfl h2)) ?_
  refine x_ldan rfl rfl rfl (h_lt (i := 0) hb (by decide)) ?_
  obtain ⟨⟨v4, B5⟩, h3, hr⟩ := bd_some hr
  refine x_c0 (m_161 hb hh h3) rfl rfl rfl rfl (am_recv_v (h_lt (i := 0) hb (by decide)) (hp_at (i := 0) hh rfl rfl) rfl) (by omega) ?_
  cases hr
  rw [kr]
  exact x_ret rfl rfl am_ret_i
theorem m_162 {h : AHp} {b : Nat} (hb : b + 17 ≤ am_SB) (hh : b + 17 ≤ h.length) {B : Md} {o : Int32 × (Md)} (hr : F_162 B = some o) : Rn 10 162 [.ref b] (hput h b (Md.cells b B)) (.inl (some (.int o.1)), hput h b (Md.cells b o.2), 0, 0) :=
  x_meth (M := am_M162) rfl (show 1 ≤ 1 by decide) (f_162 (Nat.le_refl _) hb hh hr rfl)
/-- PebbleProofsModel.takeRead()V -/
def F_164 (B : Md) : Option (Md) :=
  (F_163 93 93 B.read B.now 0 0).bind fun o2 =>
  (some (B.w_now o2)).bind fun B3 =>
  (some (B3.w_entries 0)).bind fun B5 =>
  (some (B5.w_isSaved 0)).bind fun B7 =>
  (some (B7.w_reason 0)).bind fun B9 =>
  some B9
theorem f_164 {d : Nat} (hd : 2 ≤ d) {scr : ASc} {res : ARe} {c n : Nat} {h : AHp} {b : Nat} (hb : b + 17 ≤ am_SB) (hh : b + 17 ≤ h.length) {B : Md} {o : Md} (hr : F_164 B = some o) (kr : res = (.inl (none), hput h b (Md.cells b o), c, n)) : Ex d am_M164 scr (0, [some (.ref b)], [], (hput h b (Md.cells b B)), c, n) res := by
  delta F_164 at hr
  refine x_ldan rfl rfl rfl (h_lt (i := 0) hb (by decide)) ?_
  refine x_getf rfl rfl (h_lt (i := 0) hb (by decide)) (hp_at (i := 0) hh rfl rfl) rfl ?_
  refine x_b 1 (S2 := (5, [some (.ref b)], [.int 0, .ref (b + 2)], (hput h b (Md.cells b B)), c, n)) rfl ?_
  refine x_ldan rfl rfl rfl (h_lt (i := 0) hb (by decide)) ?_
  refine x_getf rfl rfl (h_lt (i := 0) hb (by decide)) (hp_at (i := 0) hh rfl rfl) rfl ?_
  refine x_b 1 (S2 := (10, [some (.ref b)], [.int 0, .ref (b + 3), .int 0, .ref (b + 2)], (hput h b (Md.cells b B)), c, n)) rfl ?_
  obtain ⟨o2, h1, hr⟩ := bd_some hr
  obtain ⟨B3, h4, hr⟩ := bd_some hr
  refine x_c0 (m_163 (H' := (hput h b (Md.cells b B3))) (h_lt (i := 2) hb (by decide)) (hp_at (i := 2) hh rfl rfl) (h_lt (i := 3) hb (by decide)) (hp_at (i := 3) hh rfl rfl) (by omega) h1 (hp_set (i := 3) hh rfl (by decide) (Md.s_now h4))) rfl rfl rfl rfl rfl (by omega) ?_
  refine x_ldan rfl rfl rfl (h_lt (i := 0) hb (by decide)) ?_
  refine x_b 1 (S2 := (15, [some (.ref b)], [.int 0, .ref b], (hput h b (Md.cells b B3)), c, n)) rfl ?_
  obtain ⟨B5, h6, hr⟩ := bd_some hr
  refine x_putf (H := (hput h b (Md.cells b B5))) rfl rfl (h_lt (i := 0) hb (by decide)) (hp_at (i := 0) hh rfl rfl) ⟨(show 12 < 28 by decide), rfl, rfl, nofun⟩ (hp_set (i := 0) hh rfl (by decide) (Md.s_entries rfl h6)) ?_
  refine x_ldan rfl rfl rfl (h_lt (i := 0) hb (by decide)) ?_
  refine x_b 1 (S2 := (20, [some (.ref b)], [.int 0, .ref b], (hput h b (Md.cells b B5)), c, n)) rfl ?_
  obtain ⟨B7, h8, hr⟩ := bd_some hr
  refine x_putf (H := (hput h b (Md.cells b B7))) rfl rfl (h_lt (i := 0) hb (by decide)) (hp_at (i := 0) hh rfl rfl) ⟨(show 14 < 28 by decide), rfl, rfl, nofun⟩ (hp_set (i := 0) hh rfl (by decide) (Md.s_isSaved rfl h8)) ?_
  refine x_ldan rfl rfl rfl (h_lt (i := 0) hb (by decide)) ?_
  refine x_b 1 (S2 := (25, [some (.ref b)], [.int 0, .ref b], (hput h b (Md.cells b B7)), c, n)) rfl ?_
  obtain ⟨B9, h10, hr⟩ := bd_some hr
  refine x_putf (H := (hput h b (Md.cells b B9))) rfl rfl (h_lt (i := 0) hb (by decide)) (hp_at (i := 0) hh rfl rfl) ⟨(show 13 < 28 by decide), rfl, rfl, nofun⟩ (hp_set (i := 0) hh rfl (by decide) (Md.s_reason rfl h10)) ?_
  cases hr
  rw [kr]
  exact x_ret rfl rfl rfl
theorem m_164 {h : AHp} {b : Nat} (hb : b + 17 ≤ am_SB) (hh : b + 17 ≤ h.length) {B : Md} {o : Md} (hr : F_164 B = some o) : Rn 3 164 [.ref b] (hput h b (Md.cells b B)) (.inl (none), hput h b (Md.cells b o), 0, 0) :=
  x_meth (M := am_M164) rfl (show 1 ≤ 1 by decide) (f_164 (Nat.le_refl _) hb hh hr rfl)
def J_165_0_j18 (B : Md) (t0 : Int32) : Option (Int32 × (Md)) :=
  (F_135 B t0 1).bind fun (v8, B9) =>
  if v8 = 0 then
    (F_164 B9).bind fun B12 =>
    (some (B12.w_length 0)).bind fun B13 =>
    (ix 0 93).bind fun i15 =>
    some ((B13.now i15), B13)
  else
    some (0, B9)
theorem j_165_0_j18 {d : Nat} (hd : 9 ≤ d) {scr : ASc} {res : ARe} {c n : Nat} {h : AHp} {b : Nat} (hb : b + 17 ≤ am_SB) (hh : b + 17 ≤ h.length) {B : Md} {t0 : Int32} {o : Int32 × (Md)} (hr : J_165_0_j18 B t0 = some o) (kr : res = (.inl (some (.int o.1)), hput h b (Md.cells b o.2), c, n)) : Ex d am_M165 scr (18, [some (.ref b)], [.int t0, .ref b], (hput h b (Md.cells b B)), c, n) res := by
  delta J_165_0_j18 at hr
  refine x_b 1 (S2 := (19, [some (.ref b)], [.int 1, .int t0, .ref b], (hput h b (Md.cells b B)), c, n)) rfl ?_
  obtain ⟨⟨v8, B9⟩, h7, hr⟩ := bd_some hr
  refine x_c0 (m_135 hb hh h7) rfl rfl rfl rfl (am_recv_v (h_lt (i := 0) hb (by decide)) (hp_at (i := 0) hh rfl rfl) rfl) (by omega) ?_
  rcases ite_some hr with ⟨h10, hr⟩ | ⟨h10, hr⟩
  · refine x_zt rfl rfl (decide_eq_true h10) ?_
    refine x_ldan rfl rfl rfl (h_lt (i := 0) hb (by decide)) ?_
    obtain ⟨B12, h11, hr⟩ := bd_some hr
    refine x_c0 (m_164 hb hh h11) rfl rfl rfl rfl (am_recv_v (h_lt (i := 0) hb (by decide)) (hp_at (i := 0) hh rfl rfl) rfl) (by omega) ?_
    refine x_ldan rfl rfl rfl (h_lt (i := 0) hb (by decide)) ?_
    refine x_b 1 (S2 := (33, [some (.ref b)], [.int 0, .ref b], (hput h b (Md.cells b B12)), c, n)) rfl ?_
    obtain ⟨B13, h14, hr⟩ := bd_some hr
    refine x_putf (H := (hput h b (Md.cells b B13))) rfl rfl (h_lt (i := 0) hb (by decide)) (hp_at (i := 0) hh rfl rfl) ⟨(show 2 < 28 by decide), rfl, rfl, nofun⟩ (hp_set (i := 0) hh rfl (by decide) (Md.s_length rfl h14)) ?_
    refine x_ldan rfl rfl rfl (h_lt (i := 0) hb (by decide)) ?_
    refine x_getf rfl rfl (h_lt (i := 0) hb (by decide)) (hp_at (i := 0) hh rfl rfl) rfl ?_
    refine x_b 1 (S2 := (41, [some (.ref b)], [.int 0, .ref (b + 3)], (hput h b (Md.cells b B13)), c, n)) rfl ?_
    obtain ⟨i15, h16, hr⟩ := bd_some hr
    refine x_iald rfl rfl (h_lt (i := 3) hb (by decide)) (hp_at (i := 3) hh rfl rfl) h16 ?_
    cases hr
    rw [kr]
    exact x_ret rfl rfl am_ret_i
  · refine x_zf rfl rfl (decide_eq_false h10) ?_
    refine x_b 1 (S2 := (26, [some (.ref b)], [.int 0], (hput h b (Md.cells b B9)), c, n)) rfl ?_
    cases hr
    rw [kr]
    exact x_ret rfl rfl am_ret_i
/-- PebbleProofsModel.load()I -/
def F_165 (B : Md) : Option (Int32 × (Md)) :=
  (some (B.w_thrown 0)).bind fun B1 =>
  (F_161 B1).bind fun (v4, B5) =>
  if 0 ≤ v4 then
    J_165_0_j18 B5 0
  else
    J_165_0_j18 B5 1
theorem f_165 {d : Nat} (hd : 9 ≤ d) {scr : ASc} {res : ARe} {c n : Nat} {h : AHp} {b : Nat} (hb : b + 17 ≤ am_SB) (hh : b + 17 ≤ h.length) {B : Md} {o : Int32 × (Md)} (hr : F_165 B = some o) (kr : res = (.inl (some (.int o.1)), hput h b (Md.cells b o.2), c, n)) : Ex d am_M165 scr (0, [some (.ref b)], [], (hput h b (Md.cells b B)), c, n) res := by
  delta F_165 at hr
  refine x_ldan rfl rfl rfl (h_lt (i := 0) hb (by decide)) ?_
  refine x_b 1 (S2 := (2, [some (.ref b)], [.int 0, .ref b], (hput h b (Md.cells b B)), c, n)) rfl ?_
  obtain ⟨B1, h2, hr⟩ := bd_some hr
  refine x_putf (H := (hput h b (Md.cells b B1))) rfl rfl (h_lt (i := 0) hb (by decide)) (hp_at (i := 0) hh rfl rfl) ⟨(show 0 < 28 by decide), rfl, rfl, nofun⟩ (hp_set (i := 0) hh rfl (by decide) (Md.s_thrown rfl h2)) ?_
  refine x_ldan rfl rfl rfl (h_lt (i := 0) hb (by decide)) ?_
  refine x_ldan rfl rfl rfl (h_lt (i := 0) hb (by decide)) ?_
  obtain ⟨⟨v4, B5⟩, h3, hr⟩ := bd_some hr
  refine x_c0 (m_161 hb hh h3) rfl rfl rfl rfl (am_recv_v (h_lt (i := 0) hb (by decide)) (hp_at (i := 0) hh rfl rfl) rfl) (by omega) ?_
  rcases ite_some hr with ⟨h6, hr⟩ | ⟨h6, hr⟩
  · refine x_zt rfl rfl (decide_eq_true h6) ?_
    refine x_b 1 (S2 := (18, [some (.ref b)], [.int 0, .ref b], (hput h b (Md.cells b B5)), c, n)) rfl ?_
    refine x_fg (Lq.s Lq.nil) ?_
    exact j_165_0_j18 hd hb hh hr kr
  · refine x_zf rfl rfl (decide_eq_false h6) ?_
    refine x_b 2 (S2 := (18, [some (.ref b)], [.int 1, .ref b], (hput h b (Md.cells b B5)), c, n)) rfl ?_
    refine x_fg (Lq.s Lq.nil) ?_
    exact j_165_0_j18 hd hb hh hr kr
theorem m_165 {h : AHp} {b : Nat} (hb : b + 17 ≤ am_SB) (hh : b + 17 ≤ h.length) {B : Md} {o : Int32 × (Md)} (hr : F_165 B = some o) : Rn 10 165 [.ref b] (hput h b (Md.cells b B)) (.inl (some (.int o.1)), hput h b (Md.cells b o.2), 0, 0) :=
  x_meth (M := am_M165) rfl (show 1 ≤ 1 by decide) (f_165 (Nat.le_refl _) hb hh hr rfl)
def J_166_0_j50 (B : Md) : Option (Md) :=
  (F_163 93 930 B.now B.history 0 (93 * B.entries)).bind fun o3 =>
  (some (B.w_history o3)).bind fun B4 =>
  (some (B4.w_entries (B4.entries + 1))).bind fun B6 =>
  some B6
theorem j_166_0_j50 {d : Nat} (hd : 2 ≤ d) {scr : ASc} {res : ARe} {c n : Nat} {h : AHp} {b : Nat} (hb : b + 17 ≤ am_SB) (hh : b + 17 ≤ h.length) {B : Md} {o : Md} (hr : J_166_0_j50 B = some o) (kr : res = (.inl (none), hput h b (Md.cells b o), c, n)) : Ex d am_M166 scr (50, [some (.ref b), none], [], (hput h b (Md.cells b B)), c, n) res := by
  delta J_166_0_j50 at hr
  refine x_ldan rfl rfl rfl (h_lt (i := 0) hb (by decide)) ?_
  refine x_getf rfl rfl (h_lt (i := 0) hb (by decide)) (hp_at (i := 0) hh rfl rfl) rfl ?_
  refine x_b 1 (S2 := (55, [some (.ref b), none], [.int 0, .ref (b + 3)], (hput h b (Md.cells b B)), c, n)) rfl ?_
  refine x_ldan rfl rfl rfl (h_lt (i := 0) hb (by decide)) ?_
  refine x_getf rfl rfl (h_lt (i := 0) hb (by decide)) (hp_at (i := 0) hh rfl rfl) rfl ?_
  refine x_b 1 (S2 := (61, [some (.ref b), none], [.int 93, .ref (b + 5), .int 0, .ref (b + 3)], (hput h b (Md.cells b B)), c, n)) rfl ?_
  refine x_ldan rfl rfl rfl (h_lt (i := 0) hb (by decide)) ?_
  refine x_getf rfl rfl (h_lt (i := 0) hb (by decide)) (hp_at (i := 0) hh rfl rfl) rfl ?_
  refine x_b 1 (S2 := (66, [some (.ref b), none], [.int (93 * B.entries), .ref (b + 5), .int 0, .ref (b + 3)], (hput h b (Md.cells b B)), c, n)) rfl ?_
  obtain ⟨o3, h2, hr⟩ := bd_some hr
  obtain ⟨B4, h5, hr⟩ := bd_some hr
  refine x_c0 (m_163 (H' := (hput h b (Md.cells b B4))) (h_lt (i := 3) hb (by decide)) (hp_at (i := 3) hh rfl rfl) (h_lt (i := 5) hb (by decide)) (hp_at (i := 5) hh rfl rfl) (by omega) h2 (hp_set (i := 5) hh rfl (by decide) (Md.s_history h5))) rfl rfl rfl rfl rfl (by omega) ?_
  refine x_ldan rfl rfl rfl (h_lt (i := 0) hb (by decide)) ?_
  refine x_b 1 (S2 := (71, [some (.ref b), none], [.ref b, .ref b], (hput h b (Md.cells b B4)), c, n)) rfl ?_
  refine x_getf rfl rfl (h_lt (i := 0) hb (by decide)) (hp_at (i := 0) hh rfl rfl) rfl ?_
  refine x_b 2 (S2 := (76, [some (.ref b), none], [.int (B4.entries + 1), .ref b], (hput h b (Md.cells b B4)), c, n)) rfl ?_
  obtain ⟨B6, h7, hr⟩ := bd_some hr
  refine x_putf (H := (hput h b (Md.cells b B6))) rfl rfl (h_lt (i := 0) hb (by decide)) (hp_at (i := 0) hh rfl rfl) ⟨(show 12 < 28 by decide), rfl, rfl, nofun⟩ (hp_set (i := 0) hh rfl (by decide) (Md.s_entries rfl h7)) ?_
  cases hr
  rw [kr]
  exact x_ret rfl rfl rfl
abbrev P_166_12 (h : AHp) (b : Nat) (c n : Nat)  (s : Int32 × (Md)) : ASt := (12, [some (.ref b), some (.int s.1)], [], (hput h b (Md.cells b s.2)), c, n)
abbrev PX_166_12 (h : AHp) (b : Nat) (c n : Nat)  (s : (Md)) : ASt := (40, [some (.ref b), none], [], (hput h b (Md.cells b s)), c, n)
def G_166_12  (s : Int32 × (Md)) : Option ((Int32 × (Md)) ⊕ ((Md))) := 
  match s with
  | (x1, B) =>
    if 930 ≤ x1 then
      some (.inr B)
    else
      (ix x1 930).bind fun i9 =>
      (ix (x1 - 93) 930).bind fun i11 =>
      (some (B.w_history (upd B.history i11 (B.history i9)))).bind fun B13 =>
      some (.inl ((x1 + 1), B13))
theorem g_166_12 {d : Nat} (hd : 2 ≤ d) {scr : ASc} {res : ARe} {c n : Nat} {h : AHp} {b : Nat} (hb : b + 17 ≤ am_SB) (hh : b + 17 ≤ h.length)  {s : Int32 × (Md)} {o : (Int32 × (Md)) ⊕ ((Md))} (hr : G_166_12  s = some o) (ka : ∀ s, o = .inl s → Ex d am_M166 scr (P_166_12 h b c n  s) res) (kx : ∀ s, o = .inr s → Ex d am_M166 scr (PX_166_12 h b c n  s) res) : Ex d am_M166 scr (P_166_12 h b c n  s) res := by
  obtain ⟨x1, B⟩ := s
  delta G_166_12 at hr
  show Ex d am_M166 scr (12, [some (.ref b), some (.int x1)], [], (hput h b (Md.cells b B)), c, n) res
  refine x_b 2 (S2 := (16, [some (.ref b), some (.int x1)], [.int 930, .int x1], (hput h b (Md.cells b B)), c, n)) rfl ?_
  rcases ite_some hr with ⟨h8, hr⟩ | ⟨h8, hr⟩
  · refine x_ct rfl rfl (decide_eq_true h8) ?_
    refine x_fg (Lq.s (Lq.n Lq.nil)) ?_
    exact kx B (Option.some.inj hr).symm
  · refine x_cf rfl rfl (decide_eq_false h8) ?_
    refine x_ldan rfl rfl rfl (h_lt (i := 0) hb (by decide)) ?_
    refine x_getf rfl rfl (h_lt (i := 0) hb (by decide)) (hp_at (i := 0) hh rfl rfl) rfl ?_
    refine x_b 3 (S2 := (27, [some (.ref b), some (.int x1)], [.int (x1 - 93), .ref (b + 5)], (hput h b (Md.cells b B)), c, n)) rfl ?_
    refine x_ldan rfl rfl rfl (h_lt (i := 0) hb (by decide)) ?_
    refine x_getf rfl rfl (h_lt (i := 0) hb (by decide)) (hp_at (i := 0) hh rfl rfl) rfl ?_
    refine x_b 1 (S2 := (32, [some (.ref b), some (.int x1)], [.int x1, .ref (b + 5), .int (x1 - 93), .ref (b + 5)], (hput h b (Md.cells b B)), c, n)) rfl ?_
    obtain ⟨i9, h10, hr⟩ := bd_some hr
    refine x_iald rfl rfl (h_lt (i := 5) hb (by decide)) (hp_at (i := 5) hh rfl rfl) h10 ?_
    obtain ⟨i11, h12, hr⟩ := bd_some hr
    obtain ⟨B13, h14, hr⟩ := bd_some hr
    refine x_iast (H := (hput h b (Md.cells b B13))) rfl rfl (h_lt (i := 5) hb (by decide)) (hp_at (i := 5) hh rfl rfl) h12 (hp_set (i := 5) hh rfl (by decide) (Md.s_history h14)) ?_
    refine x_b 2 (S2 := (12, [some (.ref b), some (.int (x1 + 1))], [], (hput h b (Md.cells b B13)), c, n)) rfl ?_
    refine x_fg (Lq.s (Lq.s Lq.nil)) ?_
    exact ka ((x1 + 1), B13) (Option.some.inj hr).symm
/-- PebbleProofsModel.record()V -/
def F_166 (B : Md) : Option (Md) :=
  if ¬ B.entries = 10 then
    J_166_0_j50 B
  else
    (lw (G_166_12 ) 200000 (93, B)).bind fun B16 =>
    (some (B16.w_entries (B16.entries - 1))).bind fun B18 =>
    J_166_0_j50 B18
theorem f_166 {d : Nat} (hd : 2 ≤ d) {scr : ASc} {res : ARe} {c n : Nat} {h : AHp} {b : Nat} (hb : b + 17 ≤ am_SB) (hh : b + 17 ≤ h.length) {B : Md} {o : Md} (hr : F_166 B = some o) (kr : res = (.inl (none), hput h b (Md.cells b o), c, n)) : Ex d am_M166 scr (0, [some (.ref b), none], [], (hput h b (Md.cells b B)), c, n) res := by
  delta F_166 at hr
  refine x_ldan rfl rfl rfl (h_lt (i := 0) hb (by decide)) ?_
  refine x_getf rfl rfl (h_lt (i := 0) hb (by decide)) (hp_at (i := 0) hh rfl rfl) rfl ?_
  refine x_b 1 (S2 := (6, [some (.ref b), none], [.int 10, .int B.entries], (hput h b (Md.cells b B)), c, n)) rfl ?_
  rcases ite_some hr with ⟨h1, hr⟩ | ⟨h1, hr⟩
  · refine x_ct rfl rfl (decide_eq_true h1) ?_
    refine x_fg (Lq.s (Lq.s Lq.nil)) ?_
    exact j_166_0_j50 hd hb hh hr kr
  · refine x_cf rfl rfl (decide_eq_false h1) ?_
    refine x_b 2 (S2 := (12, [some (.ref b), some (.int 93)], [], (hput h b (Md.cells b B)), c, n)) rfl ?_
    refine x_fg (Lq.s (Lq.s Lq.nil)) ?_
    obtain ⟨B16, h15, hr⟩ := bd_some hr
    refine x_lw (P := P_166_12 h b c n ) (Q := fun x => Ex d am_M166 scr (PX_166_12 h b c n  x) res) (fun s o h1 ka kx => g_166_12 hd hb hh h1 ka kx) _ (93, B) _ h15 ?_
    show Ex d am_M166 scr (40, [some (.ref b), none], [], (hput h b (Md.cells b B16)), c, n) res
    refine x_ldan rfl rfl rfl (h_lt (i := 0) hb (by decide)) ?_
    refine x_b 1 (S2 := (42, [some (.ref b), none], [.ref b, .ref b], (hput h b (Md.cells b B16)), c, n)) rfl ?_
    refine x_getf rfl rfl (h_lt (i := 0) hb (by decide)) (hp_at (i := 0) hh rfl rfl) rfl ?_
    refine x_b 2 (S2 := (47, [some (.ref b), none], [.int (B16.entries - 1), .ref b], (hput h b (Md.cells b B16)), c, n)) rfl ?_
    obtain ⟨B18, h19, hr⟩ := bd_some hr
    refine x_putf (H := (hput h b (Md.cells b B18))) rfl rfl (h_lt (i := 0) hb (by decide)) (hp_at (i := 0) hh rfl rfl) ⟨(show 12 < 28 by decide), rfl, rfl, nofun⟩ (hp_set (i := 0) hh rfl (by decide) (Md.s_entries rfl h19)) ?_
    refine x_fg (Lq.s (Lq.s Lq.nil)) ?_
    exact j_166_0_j50 hd hb hh hr kr
theorem m_166 {h : AHp} {b : Nat} (hb : b + 17 ≤ am_SB) (hh : b + 17 ≤ h.length) {B : Md} {o : Md} (hr : F_166 B = some o) : Rn 3 166 [.ref b] (hput h b (Md.cells b B)) (.inl (none), hput h b (Md.cells b o), 0, 0) :=
  x_meth (M := am_M166) rfl (show 1 ≤ 2 by decide) (f_166 (Nat.le_refl _) hb hh hr rfl)
def J_167_0_j18 (B : Md) (t0 : Int32) : Option (Int32 × (Md)) :=
  (F_135 B t0 1).bind fun (v5, B6) =>
  if v5 = 0 then
    (some (B6.w_entries (B6.entries - 1))).bind fun B8 =>
    (F_163 930 93 B8.history B8.now (93 * B8.entries) 0).bind fun o11 =>
    (some (B8.w_now o11)).bind fun B12 =>
    some (B12.entries, B12)
  else
    some (0, B6)
theorem j_167_0_j18 {d : Nat} (hd : 2 ≤ d) {scr : ASc} {res : ARe} {c n : Nat} {h : AHp} {b : Nat} (hb : b + 17 ≤ am_SB) (hh : b + 17 ≤ h.length) {B : Md} {t0 : Int32} {o : Int32 × (Md)} (hr : J_167_0_j18 B t0 = some o) (kr : res = (.inl (some (.int o.1)), hput h b (Md.cells b o.2), c, n)) : Ex d am_M167 scr (18, [some (.ref b)], [.int t0, .ref b], (hput h b (Md.cells b B)), c, n) res := by
  delta J_167_0_j18 at hr
  refine x_b 1 (S2 := (19, [some (.ref b)], [.int 1, .int t0, .ref b], (hput h b (Md.cells b B)), c, n)) rfl ?_
  obtain ⟨⟨v5, B6⟩, h4, hr⟩ := bd_some hr
  refine x_c0 (m_135 hb hh h4) rfl rfl rfl rfl (am_recv_v (h_lt (i := 0) hb (by decide)) (hp_at (i := 0) hh rfl rfl) rfl) (by omega) ?_
  rcases ite_some hr with ⟨h7, hr⟩ | ⟨h7, hr⟩
  · refine x_zt rfl rfl (decide_eq_true h7) ?_
    refine x_ldan rfl rfl rfl (h_lt (i := 0) hb (by decide)) ?_
    refine x_b 1 (S2 := (29, [some (.ref b)], [.ref b, .ref b], (hput h b (Md.cells b B6)), c, n)) rfl ?_
    refine x_getf rfl rfl (h_lt (i := 0) hb (by decide)) (hp_at (i := 0) hh rfl rfl) rfl ?_
    refine x_b 2 (S2 := (34, [some (.ref b)], [.int (B6.entries - 1), .ref b], (hput h b (Md.cells b B6)), c, n)) rfl ?_
    obtain ⟨B8, h9, hr⟩ := bd_some hr
    refine x_putf (H := (hput h b (Md.cells b B8))) rfl rfl (h_lt (i := 0) hb (by decide)) (hp_at (i := 0) hh rfl rfl) ⟨(show 12 < 28 by decide), rfl, rfl, nofun⟩ (hp_set (i := 0) hh rfl (by decide) (Md.s_entries rfl h9)) ?_
    refine x_ldan rfl rfl rfl (h_lt (i := 0) hb (by decide)) ?_
    refine x_getf rfl rfl (h_lt (i := 0) hb (by decide)) (hp_at (i := 0) hh rfl rfl) rfl ?_
    refine x_b 1 (S2 := (43, [some (.ref b)], [.int 93, .ref (b + 5)], (hput h b (Md.cells b B8)), c, n)) rfl ?_
    refine x_ldan rfl rfl rfl (h_lt (i := 0) hb (by decide)) ?_
    refine x_getf rfl rfl (h_lt (i := 0) hb (by decide)) (hp_at (i := 0) hh rfl rfl) rfl ?_
    refine x_b 1 (S2 := (48, [some (.ref b)], [.int (93 * B8.entries), .ref (b + 5)], (hput h b (Md.cells b B8)), c, n)) rfl ?_
    refine x_ldan rfl rfl rfl (h_lt (i := 0) hb (by decide)) ?_
    refine x_getf rfl rfl (h_lt (i := 0) hb (by decide)) (hp_at (i := 0) hh rfl rfl) rfl ?_
    refine x_b 1 (S2 := (53, [some (.ref b)], [.int 0, .ref (b + 3), .int (93 * B8.entries), .ref (b + 5)], (hput h b (Md.cells b B8)), c, n)) rfl ?_
    obtain ⟨o11, h10, hr⟩ := bd_some hr
    obtain ⟨B12, h13, hr⟩ := bd_some hr
    refine x_c0 (m_163 (H' := (hput h b (Md.cells b B12))) (h_lt (i := 5) hb (by decide)) (hp_at (i := 5) hh rfl rfl) (h_lt (i := 3) hb (by decide)) (hp_at (i := 3) hh rfl rfl) (by omega) h10 (hp_set (i := 3) hh rfl (by decide) (Md.s_now h13))) rfl rfl rfl rfl rfl (by omega) ?_
    refine x_ldan rfl rfl rfl (h_lt (i := 0) hb (by decide)) ?_
    refine x_getf rfl rfl (h_lt (i := 0) hb (by decide)) (hp_at (i := 0) hh rfl rfl) rfl ?_
    cases hr
    rw [kr]
    exact x_ret rfl rfl am_ret_i
  · refine x_zf rfl rfl (decide_eq_false h7) ?_
    refine x_b 1 (S2 := (26, [some (.ref b)], [.int 0], (hput h b (Md.cells b B6)), c, n)) rfl ?_
    cases hr
    rw [kr]
    exact x_ret rfl rfl am_ret_i
/-- PebbleProofsModel.undo()I -/
def F_167 (B : Md) : Option (Int32 × (Md)) :=
  (some (B.w_thrown 0)).bind fun B1 =>
  if B1.entries ≤ 0 then
    J_167_0_j18 B1 0
  else
    J_167_0_j18 B1 1
theorem f_167 {d : Nat} (hd : 2 ≤ d) {scr : ASc} {res : ARe} {c n : Nat} {h : AHp} {b : Nat} (hb : b + 17 ≤ am_SB) (hh : b + 17 ≤ h.length) {B : Md} {o : Int32 × (Md)} (hr : F_167 B = some o) (kr : res = (.inl (some (.int o.1)), hput h b (Md.cells b o.2), c, n)) : Ex d am_M167 scr (0, [some (.ref b)], [], (hput h b (Md.cells b B)), c, n) res := by
  delta F_167 at hr
  refine x_ldan rfl rfl rfl (h_lt (i := 0) hb (by decide)) ?_
  refine x_b 1 (S2 := (2, [some (.ref b)], [.int 0, .ref b], (hput h b (Md.cells b B)), c, n)) rfl ?_
  obtain ⟨B1, h2, hr⟩ := bd_some hr
  refine x_putf (H := (hput h b (Md.cells b B1))) rfl rfl (h_lt (i := 0) hb (by decide)) (hp_at (i := 0) hh rfl rfl) ⟨(show 0 < 28 by decide), rfl, rfl, nofun⟩ (hp_set (i := 0) hh rfl (by decide) (Md.s_thrown rfl h2)) ?_
  refine x_ldan rfl rfl rfl (h_lt (i := 0) hb (by decide)) ?_
  refine x_ldan rfl rfl rfl (h_lt (i := 0) hb (by decide)) ?_
  refine x_getf rfl rfl (h_lt (i := 0) hb (by decide)) (hp_at (i := 0) hh rfl rfl) rfl ?_
  rcases ite_some hr with ⟨h3, hr⟩ | ⟨h3, hr⟩
  · refine x_zt rfl rfl (decide_eq_true h3) ?_
    refine x_b 1 (S2 := (18, [some (.ref b)], [.int 0, .ref b], (hput h b (Md.cells b B1)), c, n)) rfl ?_
    refine x_fg (Lq.s Lq.nil) ?_
    exact j_167_0_j18 hd hb hh hr kr
  · refine x_zf rfl rfl (decide_eq_false h3) ?_
    refine x_b 2 (S2 := (18, [some (.ref b)], [.int 1, .ref b], (hput h b (Md.cells b B1)), c, n)) rfl ?_
    refine x_fg (Lq.s Lq.nil) ?_
    exact j_167_0_j18 hd hb hh hr kr
theorem m_167 {h : AHp} {b : Nat} (hb : b + 17 ≤ am_SB) (hh : b + 17 ≤ h.length) {B : Md} {o : Int32 × (Md)} (hr : F_167 B = some o) : Rn 3 167 [.ref b] (hput h b (Md.cells b B)) (.inl (some (.int o.1)), hput h b (Md.cells b o.2), 0, 0) :=
  x_meth (M := am_M167) rfl (show 1 ≤ 1 by decide) (f_167 (Nat.le_refl _) hb hh hr rfl)
/-- PebbleProofsModel.undoCount()I -/
def F_168 (B : Md) : Option (Int32 × (Md)) :=
  (some (B.w_thrown 0)).bind fun B1 =>
  some (B1.entries, B1)
theorem f_168 {d : Nat} (hd : 1 ≤ d) {scr : ASc} {res : ARe} {c n : Nat} {h : AHp} {b : Nat} (hb : b + 17 ≤ am_SB) (hh : b + 17 ≤ h.length) {B : Md} {o : Int32 × (Md)} (hr : F_168 B = some o) (kr : res = (.inl (some (.int o.1)), hput h b (Md.cells b o.2), c, n)) : Ex d am_M168 scr (0, [some (.ref b)], [], (hput h b (Md.cells b B)), c, n) res := by
  delta F_168 at hr
  refine x_ldan rfl rfl rfl (h_lt (i := 0) hb (by decide)) ?_
  refine x_b 1 (S2 := (2, [some (.ref b)], [.int 0, .ref b], (hput h b (Md.cells b B)), c, n)) rfl ?_
  obtain ⟨B1, h2, hr⟩ := bd_some hr
  refine x_putf (H := (hput h b (Md.cells b B1))) rfl rfl (h_lt (i := 0) hb (by decide)) (hp_at (i := 0) hh rfl rfl) ⟨(show 0 < 28 by decide), rfl, rfl, nofun⟩ (hp_set (i := 0) hh rfl (by decide) (Md.s_thrown rfl h2)) ?_
  refine x_ldan rfl rfl rfl (h_lt (i := 0) hb (by decide)) ?_
  refine x_getf rfl rfl (h_lt (i := 0) hb (by decide)) (hp_at (i := 0) hh rfl rfl) rfl ?_
  cases hr
  rw [kr]
  exact x_ret rfl rfl am_ret_i
theorem m_168 {h : AHp} {b : Nat} (hb : b + 17 ≤ am_SB) (hh : b + 17 ≤ h.length) {B : Md} {o : Int32 × (Md)} (hr : F_168 B = some o) : Rn 2 168 [.ref b] (hput h b (Md.cells b B)) (.inl (some (.int o.1)), hput h b (Md.cells b o.2), 0, 0) :=
  x_meth (M := am_M168) rfl (show 1 ≤ 1 by decide) (f_168 (Nat.le_refl _) hb hh hr rfl)
/-- PebbleProofsModel.save()I -/
def F_169 (B : Md) : Option (Int32 × (Md)) :=
  (some (B.w_thrown 0)).bind fun B1 =>
  (F_163 93 93 B1.now B1.saved 0 0).bind fun o4 =>
  (some (B1.w_saved o4)).bind fun B5 =>
  (some (B5.w_isSaved 1)).bind fun B7 =>
  (ix 0 93).bind fun i9 =>
  some ((B7.now i9), B7)
theorem f_169 {d : Nat} (hd : 2 ≤ d) {scr : ASc} {res : ARe} {c n : Nat} {h : AHp} {b : Nat} (hb : b + 17 ≤ am_SB) (hh : b + 17 ≤ h.length) {B : Md} {o : Int32 × (Md)} (hr : F_169 B = some o) (kr : res = (.inl (some (.int o.1)), hput h b (Md.cells b o.2), c, n)) : Ex d am_M169 scr (0, [some (.ref b)], [], (hput h b (Md.cells b B)), c, n) res := by
  delta F_169 at hr
  refine x_ldan rfl rfl rfl (h_lt (i := 0) hb (by decide)) ?_
  refine x_b 1 (S2 := (2, [some (.ref b)], [.int 0, .ref b], (hput h b (Md.cells b B)), c, n)) rfl ?_
  obtain ⟨B1, h2, hr⟩ := bd_some hr
  refine x_putf (H := (hput h b (Md.cells b B1))) rfl rfl (h_lt (i := 0) hb (by decide)) (hp_at (i := 0) hh rfl rfl) ⟨(show 0 < 28 by decide), rfl, rfl, nofun⟩ (hp_set (i := 0) hh rfl (by decide) (Md.s_thrown rfl h2)) ?_
  refine x_ldan rfl rfl rfl (h_lt (i := 0) hb (by decide)) ?_
  refine x_getf rfl rfl (h_lt (i := 0) hb (by decide)) (hp_at (i := 0) hh rfl rfl) rfl ?_
  refine x_b 1 (S2 := (10, [some (.ref b)], [.int 0, .ref (b + 3)], (hput h b (Md.cells b B1)), c, n)) rfl ?_
  refine x_ldan rfl rfl rfl (h_lt (i := 0) hb (by decide)) ?_
  refine x_getf rfl rfl (h_lt (i := 0) hb (by decide)) (hp_at (i := 0) hh rfl rfl) rfl ?_
  refine x_b 1 (S2 := (15, [some (.ref b)], [.int 0, .ref (b + 4), .int 0, .ref (b + 3)], (hput h b (Md.cells b B1)), c, n)) rfl ?_
  obtain ⟨o4, h3, hr⟩ := bd_some hr
  obtain ⟨B5, h6, hr⟩ := bd_some hr
  refine x_c0 (m_163 (H' := (hput h b (Md.cells b B5))) (h_lt (i := 3) hb (by decide)) (hp_at (i := 3) hh rfl rfl) (h_lt (i := 4) hb (by decide)) (hp_at (i := 4) hh rfl rfl) (by omega) h3 (hp_set (i := 4) hh rfl (by decide) (Md.s_saved h6))) rfl rfl rfl rfl rfl (by omega) ?_
  refine x_ldan rfl rfl rfl (h_lt (i := 0) hb (by decide)) ?_
  refine x_b 1 (S2 := (20, [some (.ref b)], [.int 1, .ref b], (hput h b (Md.cells b B5)), c, n)) rfl ?_
  obtain ⟨B7, h8, hr⟩ := bd_some hr
  refine x_putf (H := (hput h b (Md.cells b B7))) rfl rfl (h_lt (i := 0) hb (by decide)) (hp_at (i := 0) hh rfl rfl) ⟨(show 14 < 28 by decide), rfl, rfl, nofun⟩ (hp_set (i := 0) hh rfl (by decide) (Md.s_isSaved rfl h8)) ?_
  refine x_ldan rfl rfl rfl (h_lt (i := 0) hb (by decide)) ?_
  refine x_getf rfl rfl (h_lt (i := 0) hb (by decide)) (hp_at (i := 0) hh rfl rfl) rfl ?_
  refine x_b 1 (S2 := (28, [some (.ref b)], [.int 0, .ref (b + 3)], (hput h b (Md.cells b B7)), c, n)) rfl ?_
  obtain ⟨i9, h10, hr⟩ := bd_some hr
  refine x_iald rfl rfl (h_lt (i := 3) hb (by decide)) (hp_at (i := 3) hh rfl rfl) h10 ?_
  cases hr
  rw [kr]
  exact x_ret rfl rfl am_ret_i
theorem m_169 {h : AHp} {b : Nat} (hb : b + 17 ≤ am_SB) (hh : b + 17 ≤ h.length) {B : Md} {o : Int32 × (Md)} (hr : F_169 B = some o) : Rn 3 169 [.ref b] (hput h b (Md.cells b B)) (.inl (some (.int o.1)), hput h b (Md.cells b o.2), 0, 0) :=
  x_meth (M := am_M169) rfl (show 1 ≤ 1 by decide) (f_169 (Nat.le_refl _) hb hh hr rfl)
/-- PebbleProofsModel.restore()I -/
def F_170 (B : Md) : Option (Int32 × (Md)) :=
  (some (B.w_thrown 0)).bind fun B1 =>
  (F_135 B1 B1.isSaved 1).bind fun (v4, B5) =>
  if v4 = 0 then
    (F_163 93 93 B5.saved B5.now 0 0).bind fun o8 =>
    (some (B5.w_now o8)).bind fun B9 =>
    (some (B9.w_entries 0)).bind fun B11 =>
    (ix 0 93).bind fun i13 =>
    some ((B11.now i13), B11)
  else
    some (0, B5)
theorem f_170 {d : Nat} (hd : 2 ≤ d) {scr : ASc} {res : ARe} {c n : Nat} {h : AHp} {b : Nat} (hb : b + 17 ≤ am_SB) (hh : b + 17 ≤ h.length) {B : Md} {o : Int32 × (Md)} (hr : F_170 B = some o) (kr : res = (.inl (some (.int o.1)), hput h b (Md.cells b o.2), c, n)) : Ex d am_M170 scr (0, [some (.ref b)], [], (hput h b (Md.cells b B)), c, n) res := by
  delta F_170 at hr
  refine x_ldan rfl rfl rfl (h_lt (i := 0) hb (by decide)) ?_
  refine x_b 1 (S2 := (2, [some (.ref b)], [.int 0, .ref b], (hput h b (Md.cells b B)), c, n)) rfl ?_
  obtain ⟨B1, h2, hr⟩ := bd_some hr
  refine x_putf (H := (hput h b (Md.cells b B1))) rfl rfl (h_lt (i := 0) hb (by decide)) (hp_at (i := 0) hh rfl rfl) ⟨(show 0 < 28 by decide), rfl, rfl, nofun⟩ (hp_set (i := 0) hh rfl (by decide) (Md.s_thrown rfl h2)) ?_
  refine x_ldan rfl rfl rfl (h_lt (i := 0) hb (by decide)) ?_
  refine x_ldan rfl rfl rfl (h_lt (i := 0) hb (by decide)) ?_
  refine x_getf rfl rfl (h_lt (i := 0) hb (by decide)) (hp_at (i := 0) hh rfl rfl) rfl ?_
  refine x_b 1 (S2 := (11, [some (.ref b)], [.int 1, .int B1.isSaved, .ref b], (hput h b (Md.cells b B1)), c, n)) rfl ?_
  obtain ⟨⟨v4, B5⟩, h3, hr⟩ := bd_some hr
  refine x_c0 (m_135 hb hh h3) rfl rfl rfl rfl (am_recv_v (h_lt (i := 0) hb (by decide)) (hp_at (i := 0) hh rfl rfl) rfl) (by omega) ?_
  rcases ite_some hr with ⟨h6, hr⟩ | ⟨h6, hr⟩
  · refine x_zt rfl rfl (decide_eq_true h6) ?_
    refine x_ldan rfl rfl rfl (h_lt (i := 0) hb (by decide)) ?_
    refine x_getf rfl rfl (h_lt (i := 0) hb (by decide)) (hp_at (i := 0) hh rfl rfl) rfl ?_
    refine x_b 1 (S2 := (24, [some (.ref b)], [.int 0, .ref (b + 4)], (hput h b (Md.cells b B5)), c, n)) rfl ?_
    refine x_ldan rfl rfl rfl (h_lt (i := 0) hb (by decide)) ?_
    refine x_getf rfl rfl (h_lt (i := 0) hb (by decide)) (hp_at (i := 0) hh rfl rfl) rfl ?_
    refine x_b 1 (S2 := (29, [some (.ref b)], [.int 0, .ref (b + 3), .int 0, .ref (b + 4)], (hput h b (Md.cells b B5)), c, n)) rfl ?_
    obtain ⟨o8, h7, hr⟩ := bd_some hr
    obtain ⟨B9, h10, hr⟩ := bd_some hr
    refine x_c0 (m_163 (H' := (hput h b (Md.cells b B9))) (h_lt (i := 4) hb (by decide)) (hp_at (i := 4) hh rfl rfl) (h_lt (i := 3) hb (by decide)) (hp_at (i := 3) hh rfl rfl) (by omega) h7 (hp_set (i := 3) hh rfl (by decide) (Md.s_now h10))) rfl rfl rfl rfl rfl (by omega) ?_
    refine x_ldan rfl rfl rfl (h_lt (i := 0) hb (by decide)) ?_
    refine x_b 1 (S2 := (34, [some (.ref b)], [.int 0, .ref b], (hput h b (Md.cells b B9)), c, n)) rfl ?_
    obtain ⟨B11, h12, hr⟩ := bd_some hr
    refine x_putf (H := (hput h b (Md.cells b B11))) rfl rfl (h_lt (i := 0) hb (by decide)) (hp_at (i := 0) hh rfl rfl) ⟨(show 12 < 28 by decide), rfl, rfl, nofun⟩ (hp_set (i := 0) hh rfl (by decide) (Md.s_entries rfl h12)) ?_
    refine x_ldan rfl rfl rfl (h_lt (i := 0) hb (by decide)) ?_
    refine x_getf rfl rfl (h_lt (i := 0) hb (by decide)) (hp_at (i := 0) hh rfl rfl) rfl ?_
    refine x_b 1 (S2 := (42, [some (.ref b)], [.int 0, .ref (b + 3)], (hput h b (Md.cells b B11)), c, n)) rfl ?_
    obtain ⟨i13, h14, hr⟩ := bd_some hr
    refine x_iald rfl rfl (h_lt (i := 3) hb (by decide)) (hp_at (i := 3) hh rfl rfl) h14 ?_
    cases hr
    rw [kr]
    exact x_ret rfl rfl am_ret_i
  · refine x_zf rfl rfl (decide_eq_false h6) ?_
    refine x_b 1 (S2 := (18, [some (.ref b)], [.int 0], (hput h b (Md.cells b B5)), c, n)) rfl ?_
    cases hr
    rw [kr]
    exact x_ret rfl rfl am_ret_i
theorem m_170 {h : AHp} {b : Nat} (hb : b + 17 ≤ am_SB) (hh : b + 17 ≤ h.length) {B : Md} {o : Int32 × (Md)} (hr : F_170 B = some o) : Rn 3 170 [.ref b] (hput h b (Md.cells b B)) (.inl (some (.int o.1)), hput h b (Md.cells b o.2), 0, 0) :=
  x_meth (M := am_M170) rfl (show 1 ≤ 1 by decide) (f_170 (Nat.le_refl _) hb hh hr rfl)
/-- PebbleProofsModel.reason()I -/
def F_171 (B : Md) : Option (Int32 × (Md)) :=
  (some (B.w_thrown 0)).bind fun B1 =>
  some (B1.reason, B1)
theorem f_171 {d : Nat} (hd : 1 ≤ d) {scr : ASc} {res : ARe} {c n : Nat} {h : AHp} {b : Nat} (hb : b + 17 ≤ am_SB) (hh : b + 17 ≤ h.length) {B : Md} {o : Int32 × (Md)} (hr : F_171 B = some o) (kr : res = (.inl (some (.int o.1)), hput h b (Md.cells b o.2), c, n)) : Ex d am_M171 scr (0, [some (.ref b)], [], (hput h b (Md.cells b B)), c, n) res := by
  delta F_171 at hr
  refine x_ldan rfl rfl rfl (h_lt (i := 0) hb (by decide)) ?_
  refine x_b 1 (S2 := (2, [some (.ref b)], [.int 0, .ref b], (hput h b (Md.cells b B)), c, n)) rfl ?_
  obtain ⟨B1, h2, hr⟩ := bd_some hr
  refine x_putf (H := (hput h b (Md.cells b B1))) rfl rfl (h_lt (i := 0) hb (by decide)) (hp_at (i := 0) hh rfl rfl) ⟨(show 0 < 28 by decide), rfl, rfl, nofun⟩ (hp_set (i := 0) hh rfl (by decide) (Md.s_thrown rfl h2)) ?_
  refine x_ldan rfl rfl rfl (h_lt (i := 0) hb (by decide)) ?_
  refine x_getf rfl rfl (h_lt (i := 0) hb (by decide)) (hp_at (i := 0) hh rfl rfl) rfl ?_
  cases hr
  rw [kr]
  exact x_ret rfl rfl am_ret_i
theorem m_171 {h : AHp} {b : Nat} (hb : b + 17 ≤ am_SB) (hh : b + 17 ≤ h.length) {B : Md} {o : Int32 × (Md)} (hr : F_171 B = some o) : Rn 2 171 [.ref b] (hput h b (Md.cells b B)) (.inl (some (.int o.1)), hput h b (Md.cells b o.2), 0, 0) :=
  x_meth (M := am_M171) rfl (show 1 ≤ 1 by decide) (f_171 (Nat.le_refl _) hb hh hr rfl)
/-- PebbleProofsModel.isVertex(I)Z -/
def F_172 (B : Md) (x1 : Int32) : Option (Int32) :=
  (ix 0 93).bind fun i1 =>
  (F_134 x1.toInt64 0 (((B.now i1) - 1).toInt64)).bind fun v4 =>
  if v4 = 0 ∨ v4 = 1 then some v4 else none
theorem f_172 {d : Nat} (hd : 2 ≤ d) {scr : ASc} {res : ARe} {c n : Nat} {H : AHp} {b : Nat} {B : Md} {x1 : Int32} (hR : Rg H b (Md.cells b B)) {o : Int32} (hr : F_172 B x1 = some o) (kr : res = (.inl (some (.int o)), H, c, n)) : Ex d am_M172 scr (0, [some (.ref b), some (.int x1)], [], H, c, n) res := by
  delta F_172 at hr
  refine x_b 3 (S2 := (3, [some (.ref b), some (.int x1)], [.long 0, .long x1.toInt64], H, c, n)) rfl ?_
  refine x_ldan rfl rfl rfl (hR.lt (i := 0) (show 0 < 17 by decide)) ?_
  refine x_getf rfl rfl (hR.lt (i := 0) (show 0 < 17 by decide)) (hR.at (i := 0) rfl) rfl ?_
  refine x_b 1 (S2 := (8, [some (.ref b), some (.int x1)], [.int 0, .ref (b + 3), .long 0, .long x1.toInt64], H, c, n)) rfl ?_
  obtain ⟨i1, h2, hr⟩ := bd_some hr
  refine x_iald rfl rfl (hR.lt (i := 3) (show 3 < 17 by decide)) (hR.at (i := 3) rfl) h2 ?_
  refine x_b 3 (S2 := (12, [some (.ref b), some (.int x1)], [.long (((B.now i1) - 1).toInt64), .long 0, .long x1.toInt64], H, c, n)) rfl ?_
  obtain ⟨v4, h3, hr⟩ := bd_some hr
  refine x_c0 (m_134 h3) rfl rfl rfl rfl rfl (by omega) ?_
  obtain ⟨h5, hr⟩ := itn_some hr
  cases hr
  rw [kr]
  exact x_ret rfl rfl (am_ret_z h5)
theorem m_172 {H : AHp} {b : Nat} {B : Md} {x1 : Int32} (hR : Rg H b (Md.cells b B)) {o : Int32} (hr : F_172 B x1 = some o) : Rn 3 172 [.ref b, .int x1] H (.inl (some (.int o)), H, 0, 0) :=
  x_meth (M := am_M172) rfl (show 2 ≤ 2 by decide) (f_172 (Nat.le_refl _) hR hr rfl)
def J_173_0_j21 (B : Md) (t0 : Int32) : Option (Int32) :=
  if t0 = 0 ∨ t0 = 1 then some t0 else none
theorem j_173_0_j21 {d : Nat} (hd : 3 ≤ d) {scr : ASc} {res : ARe} {c n : Nat} {H : AHp} {b : Nat} {B : Md} {t0 : Int32} (hR : Rg H b (Md.cells b B)) {o : Int32} (hr : J_173_0_j21 B t0 = some o) (kr : res = (.inl (some (.int o)), H, c, n)) : Ex d am_M173 scr (21, [none, none, none], [.int t0], H, c, n) res := by
  delta J_173_0_j21 at hr
  obtain ⟨h4, hr⟩ := itn_some hr
  cases hr
  rw [kr]
  exact x_ret rfl rfl (am_ret_z h4)
def J_173_0_j20 (B : Md) : Option (Int32) :=
  J_173_0_j21 B 0
theorem j_173_0_j20 {d : Nat} (hd : 3 ≤ d) {scr : ASc} {res : ARe} {c n : Nat} {H : AHp} {b : Nat} {B : Md} (hR : Rg H b (Md.cells b B)) {o : Int32} (hr : J_173_0_j20 B = some o) (kr : res = (.inl (some (.int o)), H, c, n)) : Ex d am_M173 scr (20, [none, none, none], [], H, c, n) res := by
  delta J_173_0_j20 at hr
  refine x_b 1 (S2 := (21, [none, none, none], [.int 0], H, c, n)) rfl ?_
  refine x_fg (Lq.s (Lq.s (Lq.s Lq.nil))) ?_
  exact j_173_0_j21 hd hR hr kr
/-- PebbleProofsModel.areVertices(II)Z -/
def F_173 (B : Md) (x1 : Int32) (x2 : Int32) : Option (Int32) :=
  (F_172 B x1).bind fun v2 =>
  if v2 = 0 then
    J_173_0_j20 B
  else
    (F_172 B x2).bind fun v6 =>
    if v6 = 0 then
      J_173_0_j20 B
    else
      J_173_0_j21 B 1
theorem f_173 {d : Nat} (hd : 3 ≤ d) {scr : ASc} {res : ARe} {c n : Nat} {H : AHp} {b : Nat} {B : Md} {x1 : Int32} {x2 : Int32} (hR : Rg H b (Md.cells b B)) {o : Int32} (hr : F_173 B x1 x2 = some o) (kr : res = (.inl (some (.int o)), H, c, n)) : Ex d am_M173 scr (0, [some (.ref b), some (.int x1), some (.int x2)], [], H, c, n) res := by
  delta F_173 at hr
  refine x_ldan rfl rfl rfl (hR.lt (i := 0) (show 0 < 17 by decide)) ?_
  refine x_b 1 (S2 := (2, [some (.ref b), some (.int x1), some (.int x2)], [.int x1, .ref b], H, c, n)) rfl ?_
  obtain ⟨v2, h1, hr⟩ := bd_some hr
  refine x_c0 (m_172 hR h1) rfl rfl rfl rfl (am_recv_v (hR.lt (i := 0) (show 0 < 17 by decide)) (hR.at (i := 0) rfl) rfl) (by omega) ?_
  rcases ite_some hr with ⟨h3, hr⟩ | ⟨h3, hr⟩
  · refine x_zt rfl rfl (decide_eq_true h3) ?_
    refine x_fg (Lq.n (Lq.n (Lq.n Lq.nil))) ?_
    exact j_173_0_j20 hd hR hr kr
  · refine x_zf rfl rfl (decide_eq_false h3) ?_
    refine x_ldan rfl rfl rfl (hR.lt (i := 0) (show 0 < 17 by decide)) ?_
    refine x_b 1 (S2 := (10, [some (.ref b), some (.int x1), some (.int x2)], [.int x2, .ref b], H, c, n)) rfl ?_
    obtain ⟨v6, h5, hr⟩ := bd_some hr
    refine x_c0 (m_172 hR h5) rfl rfl rfl rfl (am_recv_v (hR.lt (i := 0) (show 0 < 17 by decide)) (hR.at (i := 0) rfl) rfl) (by omega) ?_
    rcases ite_some hr with ⟨h7, hr⟩ | ⟨h7, hr⟩
    · refine x_zt rfl rfl (decide_eq_true h7) ?_
      refine x_fg (Lq.n (Lq.n (Lq.n Lq.nil))) ?_
      exact j_173_0_j20 hd hR hr kr
    · refine x_zf rfl rfl (decide_eq_false h7) ?_
      refine x_b 2 (S2 := (21, [some (.ref b), some (.int x1), some (.int x2)], [.int 1], H, c, n)) rfl ?_
      refine x_fg (Lq.n (Lq.n (Lq.n Lq.nil))) ?_
      exact j_173_0_j21 hd hR hr kr
theorem m_173 {H : AHp} {b : Nat} {B : Md} {x1 : Int32} {x2 : Int32} (hR : Rg H b (Md.cells b B)) {o : Int32} (hr : F_173 B x1 x2 = some o) : Rn 4 173 [.ref b, .int x1, .int x2] H (.inl (some (.int o)), H, 0, 0) :=
  x_meth (M := am_M173) rfl (show 3 ≤ 3 by decide) (f_173 (Nat.le_refl _) hR hr rfl)
/-- PebbleProofsModel.isStrategy(I)Z -/
def F_174 (B : Md) (x1 : Int32) : Option (Int32) :=
  (ix 14 93).bind fun i1 =>
  (F_134 x1.toInt64 0 (((B.now i1) - 1).toInt64)).bind fun v4 =>
  if v4 = 0 ∨ v4 = 1 then some v4 else none
theorem f_174 {d : Nat} (hd : 2 ≤ d) {scr : ASc} {res : ARe} {c n : Nat} {H : AHp} {b : Nat} {B : Md} {x1 : Int32} (hR : Rg H b (Md.cells b B)) {o : Int32} (hr : F_174 B x1 = some o) (kr : res = (.inl (some (.int o)), H, c, n)) : Ex d am_M174 scr (0, [some (.ref b), some (.int x1)], [], H, c, n) res := by
  delta F_174 at hr
  refine x_b 3 (S2 := (3, [some (.ref b), some (.int x1)], [.long 0, .long x1.toInt64], H, c, n)) rfl ?_
  refine x_ldan rfl rfl rfl (hR.lt (i := 0) (show 0 < 17 by decide)) ?_
  refine x_getf rfl rfl (hR.lt (i := 0) (show 0 < 17 by decide)) (hR.at (i := 0) rfl) rfl ?_
  refine x_b 1 (S2 := (9, [some (.ref b), some (.int x1)], [.int 14, .ref (b + 3), .long 0, .long x1.toInt64], H, c, n)) rfl ?_
  obtain ⟨i1, h2, hr⟩ := bd_some hr
  refine x_iald rfl rfl (hR.lt (i := 3) (show 3 < 17 by decide)) (hR.at (i := 3) rfl) h2 ?_
  refine x_b 3 (S2 := (13, [some (.ref b), some (.int x1)], [.long (((B.now i1) - 1).toInt64), .long 0, .long x1.toInt64], H, c, n)) rfl ?_
  obtain ⟨v4, h3, hr⟩ := bd_some hr
  refine x_c0 (m_134 h3) rfl rfl rfl rfl rfl (by omega) ?_
  obtain ⟨h5, hr⟩ := itn_some hr
  cases hr
  rw [kr]
  exact x_ret rfl rfl (am_ret_z h5)
theorem m_174 {H : AHp} {b : Nat} {B : Md} {x1 : Int32} (hR : Rg H b (Md.cells b B)) {o : Int32} (hr : F_174 B x1 = some o) : Rn 3 174 [.ref b, .int x1] H (.inl (some (.int o)), H, 0, 0) :=
  x_meth (M := am_M174) rfl (show 2 ≤ 2 by decide) (f_174 (Nat.le_refl _) hR hr rfl)
/-- PebbleProofsModel.areNeighbours(II)Z -/
def F_175 (B : Md) (x1 : Int32) (x2 : Int32) : Option (Int32) :=
  (ix (1 + x1) 93).bind fun i1 =>
  (F_136 (B.now i1) x2).bind fun v4 =>
  if v4 = 0 ∨ v4 = 1 then some v4 else none
theorem f_175 {d : Nat} (hd : 2 ≤ d) {scr : ASc} {res : ARe} {c n : Nat} {H : AHp} {b : Nat} {B : Md} {x1 : Int32} {x2 : Int32} (hR : Rg H b (Md.cells b B)) {o : Int32} (hr : F_175 B x1 x2 = some o) (kr : res = (.inl (some (.int o)), H, c, n)) : Ex d am_M175 scr (0, [some (.ref b), some (.int x1), some (.int x2)], [], H, c, n) res := by
  delta F_175 at hr
  refine x_ldan rfl rfl rfl (hR.lt (i := 0) (show 0 < 17 by decide)) ?_
  refine x_getf rfl rfl (hR.lt (i := 0) (show 0 < 17 by decide)) (hR.at (i := 0) rfl) rfl ?_
  refine x_b 3 (S2 := (7, [some (.ref b), some (.int x1), some (.int x2)], [.int (1 + x1), .ref (b + 3)], H, c, n)) rfl ?_
  obtain ⟨i1, h2, hr⟩ := bd_some hr
  refine x_iald rfl rfl (hR.lt (i := 3) (show 3 < 17 by decide)) (hR.at (i := 3) rfl) h2 ?_
  refine x_b 1 (S2 := (9, [some (.ref b), some (.int x1), some (.int x2)], [.int x2, .int (B.now i1)], H, c, n)) rfl ?_
  obtain ⟨v4, h3, hr⟩ := bd_some hr
  refine x_c0 (m_136 h3) rfl rfl rfl rfl rfl (by omega) ?_
  obtain ⟨h5, hr⟩ := itn_some hr
  cases hr
  rw [kr]
  exact x_ret rfl rfl (am_ret_z h5)
theorem m_175 {H : AHp} {b : Nat} {B : Md} {x1 : Int32} {x2 : Int32} (hR : Rg H b (Md.cells b B)) {o : Int32} (hr : F_175 B x1 x2 = some o) : Rn 3 175 [.ref b, .int x1, .int x2] H (.inl (some (.int o)), H, 0, 0) :=
  x_meth (M := am_M175) rfl (show 3 ≤ 3 by decide) (f_175 (Nat.le_refl _) hR hr rfl)
/-- PebbleProofsModel.pebblesOn(I)I -/
def F_176 (B : Md) (x1 : Int32) : Option (Int32) :=
  (ix (7 + x1) 93).bind fun i1 =>
  some (B.now i1)
theorem f_176 {d : Nat} (hd : 1 ≤ d) {scr : ASc} {res : ARe} {c n : Nat} {H : AHp} {b : Nat} {B : Md} {x1 : Int32} (hR : Rg H b (Md.cells b B)) {o : Int32} (hr : F_176 B x1 = some o) (kr : res = (.inl (some (.int o)), H, c, n)) : Ex d am_M176 scr (0, [some (.ref b), some (.int x1)], [], H, c, n) res := by
  delta F_176 at hr
  refine x_ldan rfl rfl rfl (hR.lt (i := 0) (show 0 < 17 by decide)) ?_
  refine x_getf rfl rfl (hR.lt (i := 0) (show 0 < 17 by decide)) (hR.at (i := 0) rfl) rfl ?_
  refine x_b 3 (S2 := (8, [some (.ref b), some (.int x1)], [.int (7 + x1), .ref (b + 3)], H, c, n)) rfl ?_
  obtain ⟨i1, h2, hr⟩ := bd_some hr
  refine x_iald rfl rfl (hR.lt (i := 3) (show 3 < 17 by decide)) (hR.at (i := 3) rfl) h2 ?_
  cases hr
  rw [kr]
  exact x_ret rfl rfl am_ret_i
theorem m_176 {H : AHp} {b : Nat} {B : Md} {x1 : Int32} (hR : Rg H b (Md.cells b B)) {o : Int32} (hr : F_176 B x1 = some o) : Rn 2 176 [.ref b, .int x1] H (.inl (some (.int o)), H, 0, 0) :=
  x_meth (M := am_M176) rfl (show 2 ≤ 2 by decide) (f_176 (Nat.le_refl _) hR hr rfl)
/-- PebbleProofsModel.strategyPart(II)I -/
def F_177 (B : Md) (x1 : Int32) (x2 : Int32) : Option (Int32) :=
  (ix ((15 + (13 * x1)) + x2) 93).bind fun i1 =>
  some (B.now i1)
theorem f_177 {d : Nat} (hd : 1 ≤ d) {scr : ASc} {res : ARe} {c n : Nat} {H : AHp} {b : Nat} {B : Md} {x1 : Int32} {x2 : Int32} (hR : Rg H b (Md.cells b B)) {o : Int32} (hr : F_177 B x1 x2 = some o) (kr : res = (.inl (some (.int o)), H, c, n)) : Ex d am_M177 scr (0, [some (.ref b), some (.int x1), some (.int x2)], [], H, c, n) res := by
  delta F_177 at hr
  refine x_ldan rfl rfl rfl (hR.lt (i := 0) (show 0 < 17 by decide)) ?_
  refine x_getf rfl rfl (hR.lt (i := 0) (show 0 < 17 by decide)) (hR.at (i := 0) rfl) rfl ?_
  refine x_b 7 (S2 := (13, [some (.ref b), some (.int x1), some (.int x2)], [.int ((15 + (13 * x1)) + x2), .ref (b + 3)], H, c, n)) rfl ?_
  obtain ⟨i1, h2, hr⟩ := bd_some hr
  refine x_iald rfl rfl (hR.lt (i := 3) (show 3 < 17 by decide)) (hR.at (i := 3) rfl) h2 ?_
  cases hr
  rw [kr]
  exact x_ret rfl rfl am_ret_i
theorem m_177 {H : AHp} {b : Nat} {B : Md} {x1 : Int32} {x2 : Int32} (hR : Rg H b (Md.cells b B)) {o : Int32} (hr : F_177 B x1 x2 = some o) : Rn 2 177 [.ref b, .int x1, .int x2] H (.inl (some (.int o)), H, 0, 0) :=
  x_meth (M := am_M177) rfl (show 3 ≤ 3 by decide) (f_177 (Nat.le_refl _) hR hr rfl)
abbrev P_178_4 (H : AHp) (b : Nat) (c n : Nat) (B : Md) (s : Int32 × Int32) : ASt := (4, [some (.ref b), some (.int s.1), some (.int s.2)], [], H, c, n)
abbrev PX_178_4 (H : AHp) (b : Nat) (c n : Nat) (B : Md) (s : Int32) : ASt := (34, [none, some (.int s), none], [], H, c, n)
def G_178_4 (B : Md) (s : Int32 × Int32) : Option ((Int32 × Int32) ⊕ (Int32)) := 
  match s with
  | (x1, x2) =>
    (ix 0 93).bind fun i1 =>
    if (B.now i1) ≤ x2 then
      some (.inr x1)
    else
      (ix (1 + x2) 93).bind fun i4 =>
      (F_137 (B.now i4)).bind fun v7 =>
      some (.inl ((x1 + v7), (x2 + 1)))
theorem g_178_4 {d : Nat} (hd : 2 ≤ d) {scr : ASc} {res : ARe} {c n : Nat} {H : AHp} {b : Nat} {B : Md} (hR : Rg H b (Md.cells b B)) {s : Int32 × Int32} {o : (Int32 × Int32) ⊕ (Int32)} (hr : G_178_4 B s = some o) (ka : ∀ s, o = .inl s → Ex d am_M178 scr (P_178_4 H b c n B s) res) (kx : ∀ s, o = .inr s → Ex d am_M178 scr (PX_178_4 H b c n B s) res) : Ex d am_M178 scr (P_178_4 H b c n B s) res := by
  obtain ⟨x1, x2⟩ := s
  delta G_178_4 at hr
  show Ex d am_M178 scr (4, [some (.ref b), some (.int x1), some (.int x2)], [], H, c, n) res
  refine x_b 1 (S2 := (5, [some (.ref b), some (.int x1), some (.int x2)], [.int x2], H, c, n)) rfl ?_
  refine x_ldan rfl rfl rfl (hR.lt (i := 0) (show 0 < 17 by decide)) ?_
  refine x_getf rfl rfl (hR.lt (i := 0) (show 0 < 17 by decide)) (hR.at (i := 0) rfl) rfl ?_
  refine x_b 1 (S2 := (10, [some (.ref b), some (.int x1), some (.int x2)], [.int 0, .ref (b + 3), .int x2], H, c, n)) rfl ?_
  obtain ⟨i1, h2, hr⟩ := bd_some hr
  refine x_iald rfl rfl (hR.lt (i := 3) (show 3 < 17 by decide)) (hR.at (i := 3) rfl) h2 ?_
  rcases ite_some hr with ⟨h3, hr⟩ | ⟨h3, hr⟩
  · refine x_ct rfl rfl (decide_eq_true h3) ?_
    refine x_fg (Lq.n (Lq.s (Lq.n Lq.nil))) ?_
    exact kx x1 (Option.some.inj hr).symm
  · refine x_cf rfl rfl (decide_eq_false h3) ?_
    refine x_b 1 (S2 := (15, [some (.ref b), some (.int x1), some (.int x2)], [.int x1], H, c, n)) rfl ?_
    refine x_ldan rfl rfl rfl (hR.lt (i := 0) (show 0 < 17 by decide)) ?_
    refine x_getf rfl rfl (hR.lt (i := 0) (show 0 < 17 by decide)) (hR.at (i := 0) rfl) rfl ?_
    refine x_b 3 (S2 := (22, [some (.ref b), some (.int x1), some (.int x2)], [.int (1 + x2), .ref (b + 3), .int x1], H, c, n)) rfl ?_
    obtain ⟨i4, h5, hr⟩ := bd_some hr
    refine x_iald rfl rfl (hR.lt (i := 3) (show 3 < 17 by decide)) (hR.at (i := 3) rfl) h5 ?_
    obtain ⟨v7, h6, hr⟩ := bd_some hr
    refine x_c0 (m_137 h6) rfl rfl rfl rfl rfl (by omega) ?_
    refine x_b 4 (S2 := (4, [some (.ref b), some (.int (x1 + v7)), some (.int (x2 + 1))], [], H, c, n)) rfl ?_
    refine x_fg (Lq.s (Lq.s (Lq.s Lq.nil))) ?_
    exact ka ((x1 + v7), (x2 + 1)) (Option.some.inj hr).symm
/-- PebbleProofsModel.edges()I -/
def F_178 (B : Md) : Option (Int32) :=
  (lw (G_178_4 B) 200000 (0, 0)).bind fun v9 =>
  some (v9 / 2)
theorem f_178 {d : Nat} (hd : 2 ≤ d) {scr : ASc} {res : ARe} {c n : Nat} {H : AHp} {b : Nat} {B : Md} (hR : Rg H b (Md.cells b B)) {o : Int32} (hr : F_178 B = some o) (kr : res = (.inl (some (.int o)), H, c, n)) : Ex d am_M178 scr (0, [some (.ref b), none, none], [], H, c, n) res := by
  delta F_178 at hr
  refine x_b 4 (S2 := (4, [some (.ref b), some (.int 0), some (.int 0)], [], H, c, n)) rfl ?_
  refine x_fg (Lq.s (Lq.s (Lq.s Lq.nil))) ?_
  obtain ⟨v9, h8, hr⟩ := bd_some hr
  refine x_lw (P := P_178_4 H b c n B) (Q := fun x => Ex d am_M178 scr (PX_178_4 H b c n B x) res) (fun s o h1 ka kx => g_178_4 hd hR h1 ka kx) _ (0, 0) _ h8 ?_
  show Ex d am_M178 scr (34, [none, some (.int v9), none], [], H, c, n) res
  refine x_b 2 (S2 := (36, [none, some (.int v9), none], [.int 2, .int v9], H, c, n)) rfl ?_
  refine x_div rfl rfl (by decide) ?_
  cases hr
  rw [kr]
  exact x_ret rfl rfl am_ret_i
theorem m_178 {H : AHp} {b : Nat} {B : Md} (hR : Rg H b (Md.cells b B)) {o : Int32} (hr : F_178 B = some o) : Rn 3 178 [.ref b] H (.inl (some (.int o)), H, 0, 0) :=
  x_meth (M := am_M178) rfl (show 1 ≤ 3 by decide) (f_178 (Nat.le_refl _) hR hr rfl)
abbrev P_179_4 (H : AHp) (b : Nat) (c n : Nat) (B : Md) (s : Int32 × Int32) : ASt := (4, [some (.ref b), some (.int s.1), some (.int s.2)], [], H, c, n)
abbrev PX_179_4 (H : AHp) (b : Nat) (c n : Nat) (B : Md) (s : Int32) : ASt := (28, [none, some (.int s), none], [], H, c, n)
def G_179_4 (B : Md) (s : Int32 × Int32) : Option ((Int32 × Int32) ⊕ (Int32)) := 
  match s with
  | (x1, x2) =>
    (ix 0 93).bind fun i1 =>
    if (B.now i1) ≤ x2 then
      some (.inr x1)
    else
      (F_176 B x2).bind fun v5 =>
      some (.inl ((x1 + v5), (x2 + 1)))
theorem g_179_4 {d : Nat} (hd : 2 ≤ d) {scr : ASc} {res : ARe} {c n : Nat} {H : AHp} {b : Nat} {B : Md} (hR : Rg H b (Md.cells b B)) {s : Int32 × Int32} {o : (Int32 × Int32) ⊕ (Int32)} (hr : G_179_4 B s = some o) (ka : ∀ s, o = .inl s → Ex d am_M179 scr (P_179_4 H b c n B s) res) (kx : ∀ s, o = .inr s → Ex d am_M179 scr (PX_179_4 H b c n B s) res) : Ex d am_M179 scr (P_179_4 H b c n B s) res := by
  obtain ⟨x1, x2⟩ := s
  delta G_179_4 at hr
  show Ex d am_M179 scr (4, [some (.ref b), some (.int x1), some (.int x2)], [], H, c, n) res
  refine x_b 1 (S2 := (5, [some (.ref b), some (.int x1), some (.int x2)], [.int x2], H, c, n)) rfl ?_
  refine x_ldan rfl rfl rfl (hR.lt (i := 0) (show 0 < 17 by decide)) ?_
  refine x_getf rfl rfl (hR.lt (i := 0) (show 0 < 17 by decide)) (hR.at (i := 0) rfl) rfl ?_
  refine x_b 1 (S2 := (10, [some (.ref b), some (.int x1), some (.int x2)], [.int 0, .ref (b + 3), .int x2], H, c, n)) rfl ?_
  obtain ⟨i1, h2, hr⟩ := bd_some hr
  refine x_iald rfl rfl (hR.lt (i := 3) (show 3 < 17 by decide)) (hR.at (i := 3) rfl) h2 ?_
  rcases ite_some hr with ⟨h3, hr⟩ | ⟨h3, hr⟩
  · refine x_ct rfl rfl (decide_eq_true h3) ?_
    refine x_fg (Lq.n (Lq.s (Lq.n Lq.nil))) ?_
    exact kx x1 (Option.some.inj hr).symm
  · refine x_cf rfl rfl (decide_eq_false h3) ?_
    refine x_b 1 (S2 := (15, [some (.ref b), some (.int x1), some (.int x2)], [.int x1], H, c, n)) rfl ?_
    refine x_ldan rfl rfl rfl (hR.lt (i := 0) (show 0 < 17 by decide)) ?_
    refine x_b 1 (S2 := (17, [some (.ref b), some (.int x1), some (.int x2)], [.int x2, .ref b, .int x1], H, c, n)) rfl ?_
    obtain ⟨v5, h4, hr⟩ := bd_some hr
    refine x_c0 (m_176 hR h4) rfl rfl rfl rfl (am_recv_v (hR.lt (i := 0) (show 0 < 17 by decide)) (hR.at (i := 0) rfl) rfl) (by omega) ?_
    refine x_b 4 (S2 := (4, [some (.ref b), some (.int (x1 + v5)), some (.int (x2 + 1))], [], H, c, n)) rfl ?_
    refine x_fg (Lq.s (Lq.s (Lq.s Lq.nil))) ?_
    exact ka ((x1 + v5), (x2 + 1)) (Option.some.inj hr).symm
/-- PebbleProofsModel.allPebbles()I -/
def F_179 (B : Md) : Option (Int32) :=
  (lw (G_179_4 B) 200000 (0, 0)).bind fun v7 =>
  some v7
theorem f_179 {d : Nat} (hd : 2 ≤ d) {scr : ASc} {res : ARe} {c n : Nat} {H : AHp} {b : Nat} {B : Md} (hR : Rg H b (Md.cells b B)) {o : Int32} (hr : F_179 B = some o) (kr : res = (.inl (some (.int o)), H, c, n)) : Ex d am_M179 scr (0, [some (.ref b), none, none], [], H, c, n) res := by
  delta F_179 at hr
  refine x_b 4 (S2 := (4, [some (.ref b), some (.int 0), some (.int 0)], [], H, c, n)) rfl ?_
  refine x_fg (Lq.s (Lq.s (Lq.s Lq.nil))) ?_
  obtain ⟨v7, h6, hr⟩ := bd_some hr
  refine x_lw (P := P_179_4 H b c n B) (Q := fun x => Ex d am_M179 scr (PX_179_4 H b c n B x) res) (fun s o h1 ka kx => g_179_4 hd hR h1 ka kx) _ (0, 0) _ h6 ?_
  show Ex d am_M179 scr (28, [none, some (.int v7), none], [], H, c, n) res
  refine x_b 1 (S2 := (29, [none, some (.int v7), none], [.int v7], H, c, n)) rfl ?_
  cases hr
  rw [kr]
  exact x_ret rfl rfl am_ret_i
theorem m_179 {H : AHp} {b : Nat} {B : Md} (hR : Rg H b (Md.cells b B)) {o : Int32} (hr : F_179 B = some o) : Rn 3 179 [.ref b] H (.inl (some (.int o)), H, 0, 0) :=
  x_meth (M := am_M179) rfl (show 1 ≤ 3 by decide) (f_179 (Nat.le_refl _) hR hr rfl)
/-- PebbleProofsModel.refuses(ZII)Z -/
def F_180 (B : Md) (x1 : Int32) (x2 : Int32) (x3 : Int32) : Option (Int32 × (Md)) :=
  if ¬ x1 = 0 then
    (some (B.w_reason x2)).bind fun B2 =>
    (some (B2.w_thrown x3)).bind fun B4 =>
    some (1, B4)
  else
    some (0, B)
theorem f_180 {d : Nat} (hd : 1 ≤ d) {scr : ASc} {res : ARe} {c n : Nat} {h : AHp} {b : Nat} (hb : b + 17 ≤ am_SB) (hh : b + 17 ≤ h.length) {B : Md} {x1 : Int32} {x2 : Int32} {x3 : Int32} {o : Int32 × (Md)} (hr : F_180 B x1 x2 x3 = some o) (kr : res = (.inl (some (.int o.1)), hput h b (Md.cells b o.2), c, n)) : Ex d am_M180 scr (0, [some (.ref b), some (.int x1), some (.int x2), some (.int x3)], [], (hput h b (Md.cells b B)), c, n) res := by
  delta F_180 at hr
  refine x_b 1 (S2 := (1, [some (.ref b), some (.int x1), some (.int x2), some (.int x3)], [.int x1], (hput h b (Md.cells b B)), c, n)) rfl ?_
  rcases ite_some hr with ⟨h1, hr⟩ | ⟨h1, hr⟩
  · refine x_zt rfl rfl (decide_eq_true h1) ?_
    refine x_ldan rfl rfl rfl (h_lt (i := 0) hb (by decide)) ?_
    refine x_b 1 (S2 := (8, [some (.ref b), some (.int x1), some (.int x2), some (.int x3)], [.int x2, .ref b], (hput h b (Md.cells b B)), c, n)) rfl ?_
    obtain ⟨B2, h3, hr⟩ := bd_some hr
    refine x_putf (H := (hput h b (Md.cells b B2))) rfl rfl (h_lt (i := 0) hb (by decide)) (hp_at (i := 0) hh rfl rfl) ⟨(show 13 < 28 by decide), rfl, rfl, nofun⟩ (hp_set (i := 0) hh rfl (by decide) (Md.s_reason rfl h3)) ?_
    refine x_ldan rfl rfl rfl (h_lt (i := 0) hb (by decide)) ?_
    refine x_b 1 (S2 := (13, [some (.ref b), some (.int x1), some (.int x2), some (.int x3)], [.int x3, .ref b], (hput h b (Md.cells b B2)), c, n)) rfl ?_
    obtain ⟨B4, h5, hr⟩ := bd_some hr
    refine x_putf (H := (hput h b (Md.cells b B4))) rfl rfl (h_lt (i := 0) hb (by decide)) (hp_at (i := 0) hh rfl rfl) ⟨(show 0 < 28 by decide), rfl, rfl, nofun⟩ (hp_set (i := 0) hh rfl (by decide) (Md.s_thrown rfl h5)) ?_
    refine x_b 1 (S2 := (17, [some (.ref b), some (.int x1), some (.int x2), some (.int x3)], [.int 1], (hput h b (Md.cells b B4)), c, n)) rfl ?_
    cases hr
    rw [kr]
    exact x_ret rfl rfl (am_ret_z (by decide))
  · refine x_zf rfl rfl (decide_eq_false h1) ?_
    refine x_b 1 (S2 := (5, [some (.ref b), some (.int x1), some (.int x2), some (.int x3)], [.int 0], (hput h b (Md.cells b B)), c, n)) rfl ?_
    cases hr
    rw [kr]
    exact x_ret rfl rfl (am_ret_z (by decide))
theorem m_180 {h : AHp} {b : Nat} (hb : b + 17 ≤ am_SB) (hh : b + 17 ≤ h.length) {B : Md} {x1 : Int32} {x2 : Int32} {x3 : Int32} {o : Int32 × (Md)} (hr : F_180 B x1 x2 x3 = some o) : Rn 2 180 [.ref b, .int x1, .int x2, .int x3] (hput h b (Md.cells b B)) (.inl (some (.int o.1)), hput h b (Md.cells b o.2), 0, 0) :=
  x_meth (M := am_M180) rfl (show 4 ≤ 4 by decide) (f_180 (Nat.le_refl _) hb hh hr rfl)
abbrev P_181_9 (h : AHp) (b : Nat) (c n : Nat) (x1 : Int32) (s : Int32 × Int32 × Int32 × (Md)) : ASt := (9, [some (.ref b), some (.int x1), some (.int s.1), some (.int s.2.1), some (.int s.2.2.1), none, none], [], (hput h b (Md.cells b s.2.2.2)), c, n)
abbrev PX_181_9 (h : AHp) (b : Nat) (c n : Nat) (x1 : Int32) (s : (Md)) : ASt := (91, [none, none, none, none, none, none, none], [], (hput h b (Md.cells b s)), c, n)
abbrev P_181_19 (h : AHp) (b : Nat) (c n : Nat) (x1 : Int32) (x2 : Int32) (x3 : Int32) (x4 : Int32) (s : Int32 × Int32 × (Md)) : ASt := (19, [some (.ref b), some (.int x1), some (.int x2), some (.int x3), some (.int x4), some (.int s.1), some (.int s.2.1)], [], (hput h b (Md.cells b s.2.2)), c, n)
abbrev PX_181_19 (h : AHp) (b : Nat) (c n : Nat) (x1 : Int32) (x2 : Int32) (x3 : Int32) (x4 : Int32) (s : Int32 × (Md)) : ASt := (73, [some (.ref b), some (.int x1), some (.int x2), none, some (.int x4), some (.int s.1), none], [], (hput h b (Md.cells b s.2)), c, n)
def J_181_19_j67 (B : Md) (x1 : Int32) (x2 : Int32) (x3 : Int32) (x4 : Int32) (x5 : Int32) (x6 : Int32) : Option ((Int32 × Int32 × (Md)) ⊕ (Int32 × (Md))) :=
  some (.inl (x5, (x6 + 1), B))
theorem j_181_19_j67 {d : Nat} (hd : 2 ≤ d) {scr : ASc} {res : ARe} {c n : Nat} {h : AHp} {b : Nat} (hb : b + 17 ≤ am_SB) (hh : b + 17 ≤ h.length) {B : Md} {x1 : Int32} {x2 : Int32} {x3 : Int32} {x4 : Int32} {x5 : Int32} {x6 : Int32} {o : (Int32 × Int32 × (Md)) ⊕ (Int32 × (Md))} (hr : J_181_19_j67 B x1 x2 x3 x4 x5 x6 = some o) (ka : ∀ s, o = .inl s → Ex d am_M181 scr (P_181_19 h b c n x1 x2 x3 x4 s) res) (kx : ∀ s, o = .inr s → Ex d am_M181 scr (PX_181_19 h b c n x1 x2 x3 x4 s) res) : Ex d am_M181 scr (67, [some (.ref b), some (.int x1), some (.int x2), some (.int x3), some (.int x4), some (.int x5), some (.int x6)], [], (hput h b (Md.cells b B)), c, n) res := by
  delta J_181_19_j67 at hr
  refine x_b 2 (S2 := (19, [some (.ref b), some (.int x1), some (.int x2), some (.int x3), some (.int x4), some (.int x5), some (.int (x6 + 1))], [], (hput h b (Md.cells b B)), c, n)) rfl ?_
  refine x_fg (Lq.s (Lq.s (Lq.s (Lq.s (Lq.s (Lq.s (Lq.s Lq.nil))))))) ?_
  exact ka (x5, (x6 + 1), B) (Option.some.inj hr).symm
def G_181_19 (x1 : Int32) (x2 : Int32) (x3 : Int32) (x4 : Int32) (s : Int32 × Int32 × (Md)) : Option ((Int32 × Int32 × (Md)) ⊕ (Int32 × (Md))) := 
  match s with
  | (x5, x6, B) =>
    (ix 0 93).bind fun i2 =>
    if (B.now i2) ≤ x6 then
      some (.inr (x5, B))
    else
      (F_136 x3 x6).bind fun v6 =>
      if v6 = 0 then
        J_181_19_j67 B x1 x2 x3 x4 x5 x6
      else
        (ix ((6 * x1) + x6) 36).bind fun i8 =>
        (some (B.w_distances (upd B.distances i8 x4))).bind fun B10 =>
        (ix (1 + x6) 93).bind fun i12 =>
        J_181_19_j67 B10 x1 x2 x3 x4 (x5 ||| (B10.now i12)) x6
theorem g_181_19 {d : Nat} (hd : 2 ≤ d) {scr : ASc} {res : ARe} {c n : Nat} {h : AHp} {b : Nat} (hb : b + 17 ≤ am_SB) (hh : b + 17 ≤ h.length) {x1 : Int32} {x2 : Int32} {x3 : Int32} {x4 : Int32} {s : Int32 × Int32 × (Md)} {o : (Int32 × Int32 × (Md)) ⊕ (Int32 × (Md))} (hr : G_181_19 x1 x2 x3 x4 s = some o) (ka : ∀ s, o = .inl s → Ex d am_M181 scr (P_181_19 h b c n x1 x2 x3 x4 s) res) (kx : ∀ s, o = .inr s → Ex d am_M181 scr (PX_181_19 h b c n x1 x2 x3 x4 s) res) : Ex d am_M181 scr (P_181_19 h b c n x1 x2 x3 x4 s) res := by
  obtain ⟨x5, x6, B⟩ := s
  delta G_181_19 at hr
  show Ex d am_M181 scr (19, [some (.ref b), some (.int x1), some (.int x2), some (.int x3), some (.int x4), some (.int x5), some (.int x6)], [], (hput h b (Md.cells b B)), c, n) res
  refine x_b 1 (S2 := (21, [some (.ref b), some (.int x1), some (.int x2), some (.int x3), some (.int x4), some (.int x5), some (.int x6)], [.int x6], (hput h b (Md.cells b B)), c, n)) rfl ?_
  refine x_ldan rfl rfl rfl (h_lt (i := 0) hb (by decide)) ?_
  refine x_getf rfl rfl (h_lt (i := 0) hb (by decide)) (hp_at (i := 0) hh rfl rfl) rfl ?_
  refine x_b 1 (S2 := (26, [some (.ref b), some (.int x1), some (.int x2), some (.int x3), some (.int x4), some (.int x5), some (.int x6)], [.int 0, .ref (b + 3), .int x6], (hput h b (Md.cells b B)), c, n)) rfl ?_
  obtain ⟨i2, h3, hr⟩ := bd_some hr
  refine x_iald rfl rfl (h_lt (i := 3) hb (by decide)) (hp_at (i := 3) hh rfl rfl) h3 ?_
  rcases ite_some hr with ⟨h4, hr⟩ | ⟨h4, hr⟩
  · refine x_ct rfl rfl (decide_eq_true h4) ?_
    refine x_fg (Lq.s (Lq.s (Lq.s (Lq.n (Lq.s (Lq.s (Lq.n Lq.nil))))))) ?_
    exact kx (x5, B) (Option.some.inj hr).symm
  · refine x_cf rfl rfl (decide_eq_false h4) ?_
    refine x_b 2 (S2 := (33, [some (.ref b), some (.int x1), some (.int x2), some (.int x3), some (.int x4), some (.int x5), some (.int x6)], [.int x6, .int x3], (hput h b (Md.cells b B)), c, n)) rfl ?_
    obtain ⟨v6, h5, hr⟩ := bd_some hr
    refine x_c0 (m_136 h5) rfl rfl rfl rfl rfl (by omega) ?_
    rcases ite_some hr with ⟨h7, hr⟩ | ⟨h7, hr⟩
    · refine x_zt rfl rfl (decide_eq_true h7) ?_
      refine x_fg (Lq.s (Lq.s (Lq.s (Lq.s (Lq.s (Lq.s (Lq.s Lq.nil))))))) ?_
      exact j_181_19_j67 hd hb hh hr ka kx
    · refine x_zf rfl rfl (decide_eq_false h7) ?_
      refine x_ldan rfl rfl rfl (h_lt (i := 0) hb (by decide)) ?_
      refine x_getf rfl rfl (h_lt (i := 0) hb (by decide)) (hp_at (i := 0) hh rfl rfl) rfl ?_
      refine x_b 6 (S2 := (52, [some (.ref b), some (.int x1), some (.int x2), some (.int x3), some (.int x4), some (.int x5), some (.int x6)], [.int x4, .int ((6 * x1) + x6), .ref (b + 6)], (hput h b (Md.cells b B)), c, n)) rfl ?_
      obtain ⟨i8, h9, hr⟩ := bd_some hr
      obtain ⟨B10, h11, hr⟩ := bd_some hr
      refine x_iast (H := (hput h b (Md.cells b B10))) rfl rfl (h_lt (i := 6) hb (by decide)) (hp_at (i := 6) hh rfl rfl) h9 (hp_set (i := 6) hh rfl (by decide) (Md.s_distances h11)) ?_
      refine x_b 1 (S2 := (55, [some (.ref b), some (.int x1), some (.int x2), some (.int x3), some (.int x4), some (.int x5), some (.int x6)], [.int x5], (hput h b (Md.cells b B10)), c, n)) rfl ?_
      refine x_ldan rfl rfl rfl (h_lt (i := 0) hb (by decide)) ?_
      refine x_getf rfl rfl (h_lt (i := 0) hb (by decide)) (hp_at (i := 0) hh rfl rfl) rfl ?_
      refine x_b 3 (S2 := (63, [some (.ref b), some (.int x1), some (.int x2), some (.int x3), some (.int x4), some (.int x5), some (.int x6)], [.int (1 + x6), .ref (b + 3), .int x5], (hput h b (Md.cells b B10)), c, n)) rfl ?_
      obtain ⟨i12, h13, hr⟩ := bd_some hr
      refine x_iald rfl rfl (h_lt (i := 3) hb (by decide)) (hp_at (i := 3) hh rfl rfl) h13 ?_
      refine x_b 2 (S2 := (67, [some (.ref b), some (.int x1), some (.int x2), some (.int x3), some (.int x4), some (.int (x5 ||| (B10.now i12))), some (.int x6)], [], (hput h b (Md.cells b B10)), c, n)) rfl ?_
      refine x_fg (Lq.s (Lq.s (Lq.s (Lq.s (Lq.s (Lq.s (Lq.s Lq.nil))))))) ?_
      exact j_181_19_j67 hd hb hh hr ka kx
def G_181_9 (x1 : Int32) (s : Int32 × Int32 × Int32 × (Md)) : Option ((Int32 × Int32 × Int32 × (Md)) ⊕ ((Md))) := 
  match s with
  | (x2, x3, x4, B) =>
    if x3 = 0 then
      some (.inr B)
    else
      (lw (G_181_19 x1 x2 x3 x4) 200000 (0, 0, B)).bind fun (v15, B16) =>
      some (.inl ((x2 ||| v15), (v15 &&& (x2 ^^^ (-1))), (x4 + 1), B16))
theorem g_181_9 {d : Nat} (hd : 2 ≤ d) {scr : ASc} {res : ARe} {c n : Nat} {h : AHp} {b : Nat} (hb : b + 17 ≤ am_SB) (hh : b + 17 ≤ h.length) {x1 : Int32} {s : Int32 × Int32 × Int32 × (Md)} {o : (Int32 × Int32 × Int32 × (Md)) ⊕ ((Md))} (hr : G_181_9 x1 s = some o) (ka : ∀ s, o = .inl s → Ex d am_M181 scr (P_181_9 h b c n x1 s) res) (kx : ∀ s, o = .inr s → Ex d am_M181 scr (PX_181_9 h b c n x1 s) res) : Ex d am_M181 scr (P_181_9 h b c n x1 s) res := by
  obtain ⟨x2, x3, x4, B⟩ := s
  delta G_181_9 at hr
  show Ex d am_M181 scr (9, [some (.ref b), some (.int x1), some (.int x2), some (.int x3), some (.int x4), none, none], [], (hput h b (Md.cells b B)), c, n) res
  refine x_b 1 (S2 := (10, [some (.ref b), some (.int x1), some (.int x2), some (.int x3), some (.int x4), none, none], [.int x3], (hput h b (Md.cells b B)), c, n)) rfl ?_
  rcases ite_some hr with ⟨h1, hr⟩ | ⟨h1, hr⟩
  · refine x_zt rfl rfl (decide_eq_true h1) ?_
    refine x_fg (Lq.n (Lq.n (Lq.n (Lq.n (Lq.n (Lq.s (Lq.s Lq.nil))))))) ?_
    exact kx B (Option.some.inj hr).symm
  · refine x_zf rfl rfl (decide_eq_false h1) ?_
    refine x_b 4 (S2 := (19, [some (.ref b), some (.int x1), some (.int x2), some (.int x3), some (.int x4), some (.int 0), some (.int 0)], [], (hput h b (Md.cells b B)), c, n)) rfl ?_
    refine x_fg (Lq.s (Lq.s (Lq.s (Lq.s (Lq.s (Lq.s (Lq.s Lq.nil))))))) ?_
    obtain ⟨o17, h14, hr⟩ := bd_some hr
    refine x_lw (P := P_181_19 h b c n x1 x2 x3 x4) (Q := fun x => Ex d am_M181 scr (PX_181_19 h b c n x1 x2 x3 x4 x) res) (fun s o h1 ka kx => g_181_19 hd hb hh h1 ka kx) _ (0, 0, B) _ h14 ?_
    obtain ⟨v15, B16⟩ := o17
    show Ex d am_M181 scr (73, [some (.ref b), some (.int x1), some (.int x2), none, some (.int x4), some (.int v15), none], [], (hput h b (Md.cells b B16)), c, n) res
    refine x_b 12 (S2 := (9, [some (.ref b), some (.int x1), some (.int (x2 ||| v15)), some (.int (v15 &&& (x2 ^^^ (-1)))), some (.int (x4 + 1)), some (.int v15), none], [], (hput h b (Md.cells b B16)), c, n)) rfl ?_
    refine x_fg (Lq.s (Lq.s (Lq.s (Lq.s (Lq.s (Lq.n (Lq.s Lq.nil))))))) ?_
    exact ka ((x2 ||| v15), (v15 &&& (x2 ^^^ (-1))), (x4 + 1), B16) (Option.some.inj hr).symm
/-- PebbleProofsModel.layDistancesFrom(I)V -/
def F_181 (B : Md) (x1 : Int32) : Option (Md) :=
  (lw (G_181_9 x1) 200000 ((1 <<< (x1 &&& 31)), (1 <<< (x1 &&& 31)), 0, B)).bind fun B19 =>
  some B19
theorem f_181 {d : Nat} (hd : 2 ≤ d) {scr : ASc} {res : ARe} {c n : Nat} {h : AHp} {b : Nat} (hb : b + 17 ≤ am_SB) (hh : b + 17 ≤ h.length) {B : Md} {x1 : Int32} {o : Md} (hr : F_181 B x1 = some o) (kr : res = (.inl (none), hput h b (Md.cells b o), c, n)) : Ex d am_M181 scr (0, [some (.ref b), some (.int x1), none, none, none, none, none], [], (hput h b (Md.cells b B)), c, n) res := by
  delta F_181 at hr
  refine x_b 8 (S2 := (9, [some (.ref b), some (.int x1), some (.int (1 <<< (x1 &&& 31))), some (.int (1 <<< (x1 &&& 31))), some (.int 0), none, none], [], (hput h b (Md.cells b B)), c, n)) rfl ?_
  refine x_fg (Lq.s (Lq.s (Lq.s (Lq.s (Lq.s (Lq.s (Lq.s Lq.nil))))))) ?_
  obtain ⟨B19, h18, hr⟩ := bd_some hr
  refine x_lw (P := P_181_9 h b c n x1) (Q := fun x => Ex d am_M181 scr (PX_181_9 h b c n x1 x) res) (fun s o h1 ka kx => g_181_9 hd hb hh h1 ka kx) _ ((1 <<< (x1 &&& 31)), (1 <<< (x1 &&& 31)), 0, B) _ h18 ?_
  show Ex d am_M181 scr (91, [none, none, none, none, none, none, none], [], (hput h b (Md.cells b B19)), c, n) res
  cases hr
  rw [kr]
  exact x_ret rfl rfl rfl
theorem m_181 {h : AHp} {b : Nat} (hb : b + 17 ≤ am_SB) (hh : b + 17 ≤ h.length) {B : Md} {x1 : Int32} {o : Md} (hr : F_181 B x1 = some o) : Rn 3 181 [.ref b, .int x1] (hput h b (Md.cells b B)) (.inl (none), hput h b (Md.cells b o), 0, 0) :=
  x_meth (M := am_M181) rfl (show 2 ≤ 7 by decide) (f_181 (Nat.le_refl _) hb hh hr rfl)
abbrev P_182_2 (h : AHp) (b : Nat) (c n : Nat)  (s : Int32 × (Md)) : ASt := (2, [some (.ref b), some (.int s.1)], [], (hput h b (Md.cells b s.2)), c, n)
abbrev PX_182_2 (h : AHp) (b : Nat) (c n : Nat)  (s : (Md)) : ASt := (23, [none, none], [], (hput h b (Md.cells b s)), c, n)
def G_182_2  (s : Int32 × (Md)) : Option ((Int32 × (Md)) ⊕ ((Md))) := 
  match s with
  | (x1, B) =>
    (ix 0 93).bind fun i1 =>
    if (B.now i1) ≤ x1 then
      some (.inr B)
    else
      (F_181 B x1).bind fun B5 =>
      some (.inl ((x1 + 1), B5))
theorem g_182_2 {d : Nat} (hd : 3 ≤ d) {scr : ASc} {res : ARe} {c n : Nat} {h : AHp} {b : Nat} (hb : b + 17 ≤ am_SB) (hh : b + 17 ≤ h.length)  {s : Int32 × (Md)} {o : (Int32 × (Md)) ⊕ ((Md))} (hr : G_182_2  s = some o) (ka : ∀ s, o = .inl s → Ex d am_M182 scr (P_182_2 h b c n  s) res) (kx : ∀ s, o = .inr s → Ex d am_M182 scr (PX_182_2 h b c n  s) res) : Ex d am_M182 scr (P_182_2 h b c n  s) res := by
  obtain ⟨x1, B⟩ := s
  delta G_182_2 at hr
  show Ex d am_M182 scr (2, [some (.ref b), some (.int x1)], [], (hput h b (Md.cells b B)), c, n) res
  refine x_b 1 (S2 := (3, [some (.ref b), some (.int x1)], [.int x1], (hput h b (Md.cells b B)), c, n)) rfl ?_
  refine x_ldan rfl rfl rfl (h_lt (i := 0) hb (by decide)) ?_
  refine x_getf rfl rfl (h_lt (i := 0) hb (by decide)) (hp_at (i := 0) hh rfl rfl) rfl ?_
  refine x_b 1 (S2 := (8, [some (.ref b), some (.int x1)], [.int 0, .ref (b + 3), .int x1], (hput h b (Md.cells b B)), c, n)) rfl ?_
  obtain ⟨i1, h2, hr⟩ := bd_some hr
  refine x_iald rfl rfl (h_lt (i := 3) hb (by decide)) (hp_at (i := 3) hh rfl rfl) h2 ?_
  rcases ite_some hr with ⟨h3, hr⟩ | ⟨h3, hr⟩
  · refine x_ct rfl rfl (decide_eq_true h3) ?_
    refine x_fg (Lq.n (Lq.n Lq.nil)) ?_
    exact kx B (Option.some.inj hr).symm
  · refine x_cf rfl rfl (decide_eq_false h3) ?_
    refine x_ldan rfl rfl rfl (h_lt (i := 0) hb (by decide)) ?_
    refine x_b 1 (S2 := (14, [some (.ref b), some (.int x1)], [.int x1, .ref b], (hput h b (Md.cells b B)), c, n)) rfl ?_
    obtain ⟨B5, h4, hr⟩ := bd_some hr
    refine x_c0 (m_181 hb hh h4) rfl rfl rfl rfl (am_recv_v (h_lt (i := 0) hb (by decide)) (hp_at (i := 0) hh rfl rfl) rfl) (by omega) ?_
    refine x_b 2 (S2 := (2, [some (.ref b), some (.int (x1 + 1))], [], (hput h b (Md.cells b B5)), c, n)) rfl ?_
    refine x_fg (Lq.s (Lq.s Lq.nil)) ?_
    exact ka ((x1 + 1), B5) (Option.some.inj hr).symm
/-- PebbleProofsModel.layDistances()V -/
def F_182 (B : Md) : Option (Md) :=
  (lw (G_182_2 ) 200000 (0, B)).bind fun B7 =>
  some B7
theorem f_182 {d : Nat} (hd : 3 ≤ d) {scr : ASc} {res : ARe} {c n : Nat} {h : AHp} {b : Nat} (hb : b + 17 ≤ am_SB) (hh : b + 17 ≤ h.length) {B : Md} {o : Md} (hr : F_182 B = some o) (kr : res = (.inl (none), hput h b (Md.cells b o), c, n)) : Ex d am_M182 scr (0, [some (.ref b), none], [], (hput h b (Md.cells b B)), c, n) res := by
  delta F_182 at hr
  refine x_b 2 (S2 := (2, [some (.ref b), some (.int 0)], [], (hput h b (Md.cells b B)), c, n)) rfl ?_
  refine x_fg (Lq.s (Lq.s Lq.nil)) ?_
  obtain ⟨B7, h6, hr⟩ := bd_some hr
  refine x_lw (P := P_182_2 h b c n ) (Q := fun x => Ex d am_M182 scr (PX_182_2 h b c n  x) res) (fun s o h1 ka kx => g_182_2 hd hb hh h1 ka kx) _ (0, B) _ h6 ?_
  show Ex d am_M182 scr (23, [none, none], [], (hput h b (Md.cells b B7)), c, n) res
  cases hr
  rw [kr]
  exact x_ret rfl rfl rfl
theorem m_182 {h : AHp} {b : Nat} (hb : b + 17 ≤ am_SB) (hh : b + 17 ≤ h.length) {B : Md} {o : Md} (hr : F_182 B = some o) : Rn 4 182 [.ref b] (hput h b (Md.cells b B)) (.inl (none), hput h b (Md.cells b o), 0, 0) :=
  x_meth (M := am_M182) rfl (show 1 ≤ 2 by decide) (f_182 (Nat.le_refl _) hb hh hr rfl)
/-- PebbleProofsModel.distanceOf(II)I -/
def F_183 (B : Md) (x1 : Int32) (x2 : Int32) : Option (Int32) :=
  (ix ((6 * x1) + x2) 36).bind fun i1 =>
  some (B.distances i1)
theorem f_183 {d : Nat} (hd : 1 ≤ d) {scr : ASc} {res : ARe} {c n : Nat} {H : AHp} {b : Nat} {B : Md} {x1 : Int32} {x2 : Int32} (hR : Rg H b (Md.cells b B)) {o : Int32} (hr : F_183 B x1 x2 = some o) (kr : res = (.inl (some (.int o)), H, c, n)) : Ex d am_M183 scr (0, [some (.ref b), some (.int x1), some (.int x2)], [], H, c, n) res := by
  delta F_183 at hr
  refine x_ldan rfl rfl rfl (hR.lt (i := 0) (show 0 < 17 by decide)) ?_
  refine x_getf rfl rfl (hR.lt (i := 0) (show 0 < 17 by decide)) (hR.at (i := 0) rfl) rfl ?_
  refine x_b 5 (S2 := (10, [some (.ref b), some (.int x1), some (.int x2)], [.int ((6 * x1) + x2), .ref (b + 6)], H, c, n)) rfl ?_
  obtain ⟨i1, h2, hr⟩ := bd_some hr
  refine x_iald rfl rfl (hR.lt (i := 6) (show 6 < 17 by decide)) (hR.at (i := 6) rfl) h2 ?_
  cases hr
  rw [kr]
  exact x_ret rfl rfl am_ret_i
theorem m_183 {H : AHp} {b : Nat} {B : Md} {x1 : Int32} {x2 : Int32} (hR : Rg H b (Md.cells b B)) {o : Int32} (hr : F_183 B x1 x2 = some o) : Rn 2 183 [.ref b, .int x1, .int x2] H (.inl (some (.int o)), H, 0, 0) :=
  x_meth (M := am_M183) rfl (show 3 ≤ 3 by decide) (f_183 (Nat.le_refl _) hR hr rfl)
/-- PebbleProofsModel.turnEdge(II)V -/
def F_184 (B : Md) (x1 : Int32) (x2 : Int32) : Option (Md) :=
  (ix (1 + x1) 93).bind fun i1 =>
  (some (B.w_now (upd B.now i1 ((B.now i1) ^^^ (1 <<< (x2 &&& 31)))))).bind fun B3 =>
  (ix (1 + x2) 93).bind fun i5 =>
  (some (B3.w_now (upd B3.now i5 ((B3.now i5) ^^^ (1 <<< (x1 &&& 31)))))).bind fun B7 =>
  some B7
theorem f_184 {d : Nat} (hd : 1 ≤ d) {scr : ASc} {res : ARe} {c n : Nat} {h : AHp} {b : Nat} (hb : b + 17 ≤ am_SB) (hh : b + 17 ≤ h.length) {B : Md} {x1 : Int32} {x2 : Int32} {o : Md} (hr : F_184 B x1 x2 = some o) (kr : res = (.inl (none), hput h b (Md.cells b o), c, n)) : Ex d am_M184 scr (0, [some (.ref b), some (.int x1), some (.int x2)], [], (hput h b (Md.cells b B)), c, n) res := by
  delta F_184 at hr
  refine x_ldan rfl rfl rfl (h_lt (i := 0) hb (by decide)) ?_
  refine x_getf rfl rfl (h_lt (i := 0) hb (by decide)) (hp_at (i := 0) hh rfl rfl) rfl ?_
  refine x_b 4 (S2 := (8, [some (.ref b), some (.int x1), some (.int x2)], [.int (1 + x1), .ref (b + 3), .int (1 + x1), .ref (b + 3)], (hput h b (Md.cells b B)), c, n)) rfl ?_
  obtain ⟨i1, h2, hr⟩ := bd_some hr
  refine x_iald rfl rfl (h_lt (i := 3) hb (by decide)) (hp_at (i := 3) hh rfl rfl) h2 ?_
  refine x_b 4 (S2 := (13, [some (.ref b), some (.int x1), some (.int x2)], [.int ((B.now i1) ^^^ (1 <<< (x2 &&& 31))), .int (1 + x1), .ref (b + 3)], (hput h b (Md.cells b B)), c, n)) rfl ?_
  obtain ⟨B3, h4, hr⟩ := bd_some hr
  refine x_iast (H := (hput h b (Md.cells b B3))) rfl rfl (h_lt (i := 3) hb (by decide)) (hp_at (i := 3) hh rfl rfl) h2 (hp_set (i := 3) hh rfl (by decide) (Md.s_now h4)) ?_
  refine x_ldan rfl rfl rfl (h_lt (i := 0) hb (by decide)) ?_
  refine x_getf rfl rfl (h_lt (i := 0) hb (by decide)) (hp_at (i := 0) hh rfl rfl) rfl ?_
  refine x_b 4 (S2 := (22, [some (.ref b), some (.int x1), some (.int x2)], [.int (1 + x2), .ref (b + 3), .int (1 + x2), .ref (b + 3)], (hput h b (Md.cells b B3)), c, n)) rfl ?_
  obtain ⟨i5, h6, hr⟩ := bd_some hr
  refine x_iald rfl rfl (h_lt (i := 3) hb (by decide)) (hp_at (i := 3) hh rfl rfl) h6 ?_
  refine x_b 4 (S2 := (27, [some (.ref b), some (.int x1), some (.int x2)], [.int ((B3.now i5) ^^^ (1 <<< (x1 &&& 31))), .int (1 + x2), .ref (b + 3)], (hput h b (Md.cells b B3)), c, n)) rfl ?_
  obtain ⟨B7, h8, hr⟩ := bd_some hr
  refine x_iast (H := (hput h b (Md.cells b B7))) rfl rfl (h_lt (i := 3) hb (by decide)) (hp_at (i := 3) hh rfl rfl) h6 (hp_set (i := 3) hh rfl (by decide) (Md.s_now h8)) ?_
  cases hr
  rw [kr]
  exact x_ret rfl rfl rfl
theorem m_184 {h : AHp} {b : Nat} (hb : b + 17 ≤ am_SB) (hh : b + 17 ≤ h.length) {B : Md} {x1 : Int32} {x2 : Int32} {o : Md} (hr : F_184 B x1 x2 = some o) : Rn 2 184 [.ref b, .int x1, .int x2] (hput h b (Md.cells b B)) (.inl (none), hput h b (Md.cells b o), 0, 0) :=
  x_meth (M := am_M184) rfl (show 3 ≤ 3 by decide) (f_184 (Nat.le_refl _) hb hh hr rfl)
def J_185_0_j52 (B : Md) : Option (Int32 × (Md)) :=
  some (0, B)
theorem j_185_0_j52 {d : Nat} (hd : 4 ≤ d) {scr : ASc} {res : ARe} {c n : Nat} {h : AHp} {b : Nat} (hb : b + 17 ≤ am_SB) (hh : b + 17 ≤ h.length) {B : Md} {o : Int32 × (Md)} (hr : J_185_0_j52 B = some o) (kr : res = (.inl (some (.int o.1)), hput h b (Md.cells b o.2), c, n)) : Ex d am_M185 scr (52, [none, none, none], [], (hput h b (Md.cells b B)), c, n) res := by
  delta J_185_0_j52 at hr
  refine x_b 1 (S2 := (53, [none, none, none], [.int 0], (hput h b (Md.cells b B)), c, n)) rfl ?_
  cases hr
  rw [kr]
  exact x_ret rfl rfl am_ret_i
def J_185_0_j30 (B : Md) (x1 : Int32) (x2 : Int32) (t0 : Int32) : Option (Int32 × (Md)) :=
  (F_135 B t0 2).bind fun (v11, B12) =>
  if ¬ v11 = 0 then
    J_185_0_j52 B12
  else
    (F_175 B12 x1 x2).bind fun v15 =>
    (F_180 B12 v15 1 3).bind fun (v17, B18) =>
    if v17 = 0 then
      (F_166 B18).bind fun B21 =>
      (F_184 B21 x1 x2).bind fun B23 =>
      (F_178 B23).bind fun v25 =>
      some (v25, B23)
    else
      J_185_0_j52 B18
theorem j_185_0_j30 {d : Nat} (hd : 4 ≤ d) {scr : ASc} {res : ARe} {c n : Nat} {h : AHp} {b : Nat} (hb : b + 17 ≤ am_SB) (hh : b + 17 ≤ h.length) {B : Md} {x1 : Int32} {x2 : Int32} {t0 : Int32} {o : Int32 × (Md)} (hr : J_185_0_j30 B x1 x2 t0 = some o) (kr : res = (.inl (some (.int o.1)), hput h b (Md.cells b o.2), c, n)) : Ex d am_M185 scr (30, [some (.ref b), some (.int x1), some (.int x2)], [.int t0, .ref b], (hput h b (Md.cells b B)), c, n) res := by
  delta J_185_0_j30 at hr
  refine x_b 1 (S2 := (31, [some (.ref b), some (.int x1), some (.int x2)], [.int 2, .int t0, .ref b], (hput h b (Md.cells b B)), c, n)) rfl ?_
  obtain ⟨⟨v11, B12⟩, h10, hr⟩ := bd_some hr
  refine x_c0 (m_135 hb hh h10) rfl rfl rfl rfl (am_recv_v (h_lt (i := 0) hb (by decide)) (hp_at (i := 0) hh rfl rfl) rfl) (by omega) ?_
  rcases ite_some hr with ⟨h13, hr⟩ | ⟨h13, hr⟩
  · refine x_zt rfl rfl (decide_eq_true h13) ?_
    refine x_fg (Lq.n (Lq.n (Lq.n Lq.nil))) ?_
    exact j_185_0_j52 hd hb hh hr kr
  · refine x_zf rfl rfl (decide_eq_false h13) ?_
    refine x_ldan rfl rfl rfl (h_lt (i := 0) hb (by decide)) ?_
    refine x_ldan rfl rfl rfl (h_lt (i := 0) hb (by decide)) ?_
    refine x_b 2 (S2 := (41, [some (.ref b), some (.int x1), some (.int x2)], [.int x2, .int x1, .ref b, .ref b], (hput h b (Md.cells b B12)), c, n)) rfl ?_
    obtain ⟨v15, h14, hr⟩ := bd_some hr
    refine x_c0 (m_175 (hp_rg hb hh rfl) h14) rfl rfl rfl rfl (am_recv_v (h_lt (i := 0) hb (by decide)) (hp_at (i := 0) hh rfl rfl) rfl) (by omega) ?_
    refine x_b 2 (S2 := (46, [some (.ref b), some (.int x1), some (.int x2)], [.int 3, .int 1, .int v15, .ref b], (hput h b (Md.cells b B12)), c, n)) rfl ?_
    obtain ⟨⟨v17, B18⟩, h16, hr⟩ := bd_some hr
    refine x_c0 (m_180 hb hh h16) rfl rfl rfl rfl (am_recv_v (h_lt (i := 0) hb (by decide)) (hp_at (i := 0) hh rfl rfl) rfl) (by omega) ?_
    rcases ite_some hr with ⟨h19, hr⟩ | ⟨h19, hr⟩
    · refine x_zt rfl rfl (decide_eq_true h19) ?_
      refine x_ldan rfl rfl rfl (h_lt (i := 0) hb (by decide)) ?_
      obtain ⟨B21, h20, hr⟩ := bd_some hr
      refine x_c0 (m_166 hb hh h20) rfl rfl rfl rfl (am_recv_v (h_lt (i := 0) hb (by decide)) (hp_at (i := 0) hh rfl rfl) rfl) (by omega) ?_
      refine x_ldan rfl rfl rfl (h_lt (i := 0) hb (by decide)) ?_
      refine x_b 2 (S2 := (61, [some (.ref b), some (.int x1), some (.int x2)], [.int x2, .int x1, .ref b], (hput h b (Md.cells b B21)), c, n)) rfl ?_
      obtain ⟨B23, h22, hr⟩ := bd_some hr
      refine x_c0 (m_184 hb hh h22) rfl rfl rfl rfl (am_recv_v (h_lt (i := 0) hb (by decide)) (hp_at (i := 0) hh rfl rfl) rfl) (by omega) ?_
      refine x_ldan rfl rfl rfl (h_lt (i := 0) hb (by decide)) ?_
      obtain ⟨v25, h24, hr⟩ := bd_some hr
      refine x_c0 (m_178 (hp_rg hb hh rfl) h24) rfl rfl rfl rfl (am_recv_v (h_lt (i := 0) hb (by decide)) (hp_at (i := 0) hh rfl rfl) rfl) (by omega) ?_
      cases hr
      rw [kr]
      exact x_ret rfl rfl am_ret_i
    · refine x_zf rfl rfl (decide_eq_false h19) ?_
      refine x_fg (Lq.n (Lq.n (Lq.n Lq.nil))) ?_
      exact j_185_0_j52 hd hb hh hr kr
/-- PebbleProofsModel.addEdge(II)I -/
def F_185 (B : Md) (x1 : Int32) (x2 : Int32) : Option (Int32 × (Md)) :=
  (some (B.w_thrown 0)).bind fun B1 =>
  (F_173 B1 x1 x2).bind fun v4 =>
  (F_135 B1 v4 1).bind fun (v6, B7) =>
  if ¬ v6 = 0 then
    J_185_0_j52 B7
  else
    if x1 = x2 then
      J_185_0_j30 B7 x1 x2 0
    else
      J_185_0_j30 B7 x1 x2 1
theorem f_185 {d : Nat} (hd : 4 ≤ d) {scr : ASc} {res : ARe} {c n : Nat} {h : AHp} {b : Nat} (hb : b + 17 ≤ am_SB) (hh : b + 17 ≤ h.length) {B : Md} {x1 : Int32} {x2 : Int32} {o : Int32 × (Md)} (hr : F_185 B x1 x2 = some o) (kr : res = (.inl (some (.int o.1)), hput h b (Md.cells b o.2), c, n)) : Ex d am_M185 scr (0, [some (.ref b), some (.int x1), some (.int x2)], [], (hput h b (Md.cells b B)), c, n) res := by
  delta F_185 at hr
  refine x_ldan rfl rfl rfl (h_lt (i := 0) hb (by decide)) ?_
  refine x_b 1 (S2 := (2, [some (.ref b), some (.int x1), some (.int x2)], [.int 0, .ref b], (hput h b (Md.cells b B)), c, n)) rfl ?_
  obtain ⟨B1, h2, hr⟩ := bd_some hr
  refine x_putf (H := (hput h b (Md.cells b B1))) rfl rfl (h_lt (i := 0) hb (by decide)) (hp_at (i := 0) hh rfl rfl) ⟨(show 0 < 28 by decide), rfl, rfl, nofun⟩ (hp_set (i := 0) hh rfl (by decide) (Md.s_thrown rfl h2)) ?_
  refine x_ldan rfl rfl rfl (h_lt (i := 0) hb (by decide)) ?_
  refine x_ldan rfl rfl rfl (h_lt (i := 0) hb (by decide)) ?_
  refine x_b 2 (S2 := (9, [some (.ref b), some (.int x1), some (.int x2)], [.int x2, .int x1, .ref b, .ref b], (hput h b (Md.cells b B1)), c, n)) rfl ?_
  obtain ⟨v4, h3, hr⟩ := bd_some hr
  refine x_c0 (m_173 (hp_rg hb hh rfl) h3) rfl rfl rfl rfl (am_recv_v (h_lt (i := 0) hb (by decide)) (hp_at (i := 0) hh rfl rfl) rfl) (by omega) ?_
  refine x_b 1 (S2 := (13, [some (.ref b), some (.int x1), some (.int x2)], [.int 1, .int v4, .ref b], (hput h b (Md.cells b B1)), c, n)) rfl ?_
  obtain ⟨⟨v6, B7⟩, h5, hr⟩ := bd_some hr
  refine x_c0 (m_135 hb hh h5) rfl rfl rfl rfl (am_recv_v (h_lt (i := 0) hb (by decide)) (hp_at (i := 0) hh rfl rfl) rfl) (by omega) ?_
  rcases ite_some hr with ⟨h8, hr⟩ | ⟨h8, hr⟩
  · refine x_zt rfl rfl (decide_eq_true h8) ?_
    refine x_fg (Lq.n (Lq.n (Lq.n Lq.nil))) ?_
    exact j_185_0_j52 hd hb hh hr kr
  · refine x_zf rfl rfl (decide_eq_false h8) ?_
    refine x_ldan rfl rfl rfl (h_lt (i := 0) hb (by decide)) ?_
    refine x_b 2 (S2 := (22, [some (.ref b), some (.int x1), some (.int x2)], [.int x2, .int x1, .ref b], (hput h b (Md.cells b B7)), c, n)) rfl ?_
    rcases ite_some hr with ⟨h9, hr⟩ | ⟨h9, hr⟩
    · refine x_ct rfl rfl (decide_eq_true h9) ?_
      refine x_b 1 (S2 := (30, [some (.ref b), some (.int x1), some (.int x2)], [.int 0, .ref b], (hput h b (Md.cells b B7)), c, n)) rfl ?_
      refine x_fg (Lq.s (Lq.s (Lq.s Lq.nil))) ?_
      exact j_185_0_j30 hd hb hh hr kr
    · refine x_cf rfl rfl (decide_eq_false h9) ?_
      refine x_b 2 (S2 := (30, [some (.ref b), some (.int x1), some (.int x2)], [.int 1, .ref b], (hput h b (Md.cells b B7)), c, n)) rfl ?_
      refine x_fg (Lq.s (Lq.s (Lq.s Lq.nil))) ?_
      exact j_185_0_j30 hd hb hh hr kr
theorem m_185 {h : AHp} {b : Nat} (hb : b + 17 ≤ am_SB) (hh : b + 17 ≤ h.length) {B : Md} {x1 : Int32} {x2 : Int32} {o : Int32 × (Md)} (hr : F_185 B x1 x2 = some o) : Rn 5 185 [.ref b, .int x1, .int x2] (hput h b (Md.cells b B)) (.inl (some (.int o.1)), hput h b (Md.cells b o.2), 0, 0) :=
  x_meth (M := am_M185) rfl (show 3 ≤ 3 by decide) (f_185 (Nat.le_refl _) hb hh hr rfl)
def J_186_0_j21 (B : Md) (x1 : Int32) (x2 : Int32) (t0 : Int32) : Option (Int32 × (Md)) :=
  (F_184 B x1 x2).bind fun B7 =>
  if t0 = 0 ∨ t0 = 1 then some (t0, B7) else none
theorem j_186_0_j21 {d : Nat} (hd : 4 ≤ d) {scr : ASc} {res : ARe} {c n : Nat} {h : AHp} {b : Nat} (hb : b + 17 ≤ am_SB) (hh : b + 17 ≤ h.length) {B : Md} {x1 : Int32} {x2 : Int32} {t0 : Int32} {o : Int32 × (Md)} (hr : J_186_0_j21 B x1 x2 t0 = some o) (kr : res = (.inl (some (.int o.1)), hput h b (Md.cells b o.2), c, n)) : Ex d am_M186 scr (21, [some (.ref b), some (.int x1), some (.int x2), none], [.int t0], (hput h b (Md.cells b B)), c, n) res := by
  delta J_186_0_j21 at hr
  refine x_b 1 (S2 := (22, [some (.ref b), some (.int x1), some (.int x2), some (.int t0)], [], (hput h b (Md.cells b B)), c, n)) rfl ?_
  refine x_ldan rfl rfl rfl (h_lt (i := 0) hb (by decide)) ?_
  refine x_b 2 (S2 := (25, [some (.ref b), some (.int x1), some (.int x2), some (.int t0)], [.int x2, .int x1, .ref b], (hput h b (Md.cells b B)), c, n)) rfl ?_
  obtain ⟨B7, h6, hr⟩ := bd_some hr
  refine x_c0 (m_184 hb hh h6) rfl rfl rfl rfl (am_recv_v (h_lt (i := 0) hb (by decide)) (hp_at (i := 0) hh rfl rfl) rfl) (by omega) ?_
  refine x_b 1 (S2 := (29, [some (.ref b), some (.int x1), some (.int x2), some (.int t0)], [.int t0], (hput h b (Md.cells b B7)), c, n)) rfl ?_
  obtain ⟨h8, hr⟩ := itn_some hr
  cases hr
  rw [kr]
  exact x_ret rfl rfl (am_ret_z h8)
/-- PebbleProofsModel.isNeeded(II)Z -/
def F_186 (B : Md) (x1 : Int32) (x2 : Int32) : Option (Int32 × (Md)) :=
  (F_184 B x1 x2).bind fun B2 =>
  (F_154 93 B2.now).bind fun v4 =>
  if ¬ v4 = 0 then
    J_186_0_j21 B2 x1 x2 0
  else
    J_186_0_j21 B2 x1 x2 1
theorem f_186 {d : Nat} (hd : 4 ≤ d) {scr : ASc} {res : ARe} {c n : Nat} {h : AHp} {b : Nat} (hb : b + 17 ≤ am_SB) (hh : b + 17 ≤ h.length) {B : Md} {x1 : Int32} {x2 : Int32} {o : Int32 × (Md)} (hr : F_186 B x1 x2 = some o) (kr : res = (.inl (some (.int o.1)), hput h b (Md.cells b o.2), c, n)) : Ex d am_M186 scr (0, [some (.ref b), some (.int x1), some (.int x2), none], [], (hput h b (Md.cells b B)), c, n) res := by
  delta F_186 at hr
  refine x_ldan rfl rfl rfl (h_lt (i := 0) hb (by decide)) ?_
  refine x_b 2 (S2 := (3, [some (.ref b), some (.int x1), some (.int x2), none], [.int x2, .int x1, .ref b], (hput h b (Md.cells b B)), c, n)) rfl ?_
  obtain ⟨B2, h1, hr⟩ := bd_some hr
  refine x_c0 (m_184 hb hh h1) rfl rfl rfl rfl (am_recv_v (h_lt (i := 0) hb (by decide)) (hp_at (i := 0) hh rfl rfl) rfl) (by omega) ?_
  refine x_ldan rfl rfl rfl (h_lt (i := 0) hb (by decide)) ?_
  refine x_getf rfl rfl (h_lt (i := 0) hb (by decide)) (hp_at (i := 0) hh rfl rfl) rfl ?_
  obtain ⟨v4, h3, hr⟩ := bd_some hr
  refine x_c0 (m_154 (ar_rg (h_lt (i := 3) hb (by decide)) (hp_at (i := 3) hh rfl rfl)) h3) rfl rfl rfl rfl rfl (by omega) ?_
  rcases ite_some hr with ⟨h5, hr⟩ | ⟨h5, hr⟩
  · refine x_zt rfl rfl (decide_eq_true h5) ?_
    refine x_b 1 (S2 := (21, [some (.ref b), some (.int x1), some (.int x2), none], [.int 0], (hput h b (Md.cells b B2)), c, n)) rfl ?_
    refine x_fg (Lq.s (Lq.s (Lq.s (Lq.s Lq.nil)))) ?_
    exact j_186_0_j21 hd hb hh hr kr
  · refine x_zf rfl rfl (decide_eq_false h5) ?_
    refine x_b 2 (S2 := (21, [some (.ref b), some (.int x1), some (.int x2), none], [.int 1], (hput h b (Md.cells b B2)), c, n)) rfl ?_
    refine x_fg (Lq.s (Lq.s (Lq.s (Lq.s Lq.nil)))) ?_
    exact j_186_0_j21 hd hb hh hr kr
theorem m_186 {h : AHp} {b : Nat} (hb : b + 17 ≤ am_SB) (hh : b + 17 ≤ h.length) {B : Md} {x1 : Int32} {x2 : Int32} {o : Int32 × (Md)} (hr : F_186 B x1 x2 = some o) : Rn 5 186 [.ref b, .int x1, .int x2] (hput h b (Md.cells b B)) (.inl (some (.int o.1)), hput h b (Md.cells b o.2), 0, 0) :=
  x_meth (M := am_M186) rfl (show 3 ≤ 4 by decide) (f_186 (Nat.le_refl _) hb hh hr rfl)
def J_187_0_j37 (B : Md) : Option (Int32 × (Md)) :=
  some (0, B)
theorem j_187_0_j37 {d : Nat} (hd : 5 ≤ d) {scr : ASc} {res : ARe} {c n : Nat} {h : AHp} {b : Nat} (hb : b + 17 ≤ am_SB) (hh : b + 17 ≤ h.length) {B : Md} {o : Int32 × (Md)} (hr : J_187_0_j37 B = some o) (kr : res = (.inl (some (.int o.1)), hput h b (Md.cells b o.2), c, n)) : Ex d am_M187 scr (37, [none, none, none], [], (hput h b (Md.cells b B)), c, n) res := by
  delta J_187_0_j37 at hr
  refine x_b 1 (S2 := (38, [none, none, none], [.int 0], (hput h b (Md.cells b B)), c, n)) rfl ?_
  cases hr
  rw [kr]
  exact x_ret rfl rfl am_ret_i
def J_187_0_j77 (B : Md) : Option (Int32 × (Md)) :=
  some (0, B)
theorem j_187_0_j77 {d : Nat} (hd : 5 ≤ d) {scr : ASc} {res : ARe} {c n : Nat} {h : AHp} {b : Nat} (hb : b + 17 ≤ am_SB) (hh : b + 17 ≤ h.length) {B : Md} {o : Int32 × (Md)} (hr : J_187_0_j77 B = some o) (kr : res = (.inl (some (.int o.1)), hput h b (Md.cells b o.2), c, n)) : Ex d am_M187 scr (77, [none, none, none], [], (hput h b (Md.cells b B)), c, n) res := by
  delta J_187_0_j77 at hr
  refine x_b 1 (S2 := (78, [none, none, none], [.int 0], (hput h b (Md.cells b B)), c, n)) rfl ?_
  cases hr
  rw [kr]
  exact x_ret rfl rfl am_ret_i
def J_187_0_j54 (B : Md) (x1 : Int32) (x2 : Int32) (t0 : Int32) : Option (Int32 × (Md)) :=
  (F_180 B t0 2 3).bind fun (v18, B19) =>
  if ¬ v18 = 0 then
    J_187_0_j77 B19
  else
    (F_186 B19 x1 x2).bind fun (v22, B23) =>
    (F_180 B23 v22 3 3).bind fun (v25, B26) =>
    if v25 = 0 then
      (F_166 B26).bind fun B29 =>
      (F_184 B29 x1 x2).bind fun B31 =>
      (F_178 B31).bind fun v33 =>
      some (v33, B31)
    else
      J_187_0_j77 B26
theorem j_187_0_j54 {d : Nat} (hd : 5 ≤ d) {scr : ASc} {res : ARe} {c n : Nat} {h : AHp} {b : Nat} (hb : b + 17 ≤ am_SB) (hh : b + 17 ≤ h.length) {B : Md} {x1 : Int32} {x2 : Int32} {t0 : Int32} {o : Int32 × (Md)} (hr : J_187_0_j54 B x1 x2 t0 = some o) (kr : res = (.inl (some (.int o.1)), hput h b (Md.cells b o.2), c, n)) : Ex d am_M187 scr (54, [some (.ref b), some (.int x1), some (.int x2)], [.int t0, .ref b], (hput h b (Md.cells b B)), c, n) res := by
  delta J_187_0_j54 at hr
  refine x_b 2 (S2 := (56, [some (.ref b), some (.int x1), some (.int x2)], [.int 3, .int 2, .int t0, .ref b], (hput h b (Md.cells b B)), c, n)) rfl ?_
  obtain ⟨⟨v18, B19⟩, h17, hr⟩ := bd_some hr
  refine x_c0 (m_180 hb hh h17) rfl rfl rfl rfl (am_recv_v (h_lt (i := 0) hb (by decide)) (hp_at (i := 0) hh rfl rfl) rfl) (by omega) ?_
  rcases ite_some hr with ⟨h20, hr⟩ | ⟨h20, hr⟩
  · refine x_zt rfl rfl (decide_eq_true h20) ?_
    refine x_fg (Lq.n (Lq.n (Lq.n Lq.nil))) ?_
    exact j_187_0_j77 hd hb hh hr kr
  · refine x_zf rfl rfl (decide_eq_false h20) ?_
    refine x_ldan rfl rfl rfl (h_lt (i := 0) hb (by decide)) ?_
    refine x_ldan rfl rfl rfl (h_lt (i := 0) hb (by decide)) ?_
    refine x_b 2 (S2 := (66, [some (.ref b), some (.int x1), some (.int x2)], [.int x2, .int x1, .ref b, .ref b], (hput h b (Md.cells b B19)), c, n)) rfl ?_
    obtain ⟨⟨v22, B23⟩, h21, hr⟩ := bd_some hr
    refine x_c0 (m_186 hb hh h21) rfl rfl rfl rfl (am_recv_v (h_lt (i := 0) hb (by decide)) (hp_at (i := 0) hh rfl rfl) rfl) (by omega) ?_
    refine x_b 2 (S2 := (71, [some (.ref b), some (.int x1), some (.int x2)], [.int 3, .int 3, .int v22, .ref b], (hput h b (Md.cells b B23)), c, n)) rfl ?_
    obtain ⟨⟨v25, B26⟩, h24, hr⟩ := bd_some hr
    refine x_c0 (m_180 hb hh h24) rfl rfl rfl rfl (am_recv_v (h_lt (i := 0) hb (by decide)) (hp_at (i := 0) hh rfl rfl) rfl) (by omega) ?_
    rcases ite_some hr with ⟨h27, hr⟩ | ⟨h27, hr⟩
    · refine x_zt rfl rfl (decide_eq_true h27) ?_
      refine x_ldan rfl rfl rfl (h_lt (i := 0) hb (by decide)) ?_
      obtain ⟨B29, h28, hr⟩ := bd_some hr
      refine x_c0 (m_166 hb hh h28) rfl rfl rfl rfl (am_recv_v (h_lt (i := 0) hb (by decide)) (hp_at (i := 0) hh rfl rfl) rfl) (by omega) ?_
      refine x_ldan rfl rfl rfl (h_lt (i := 0) hb (by decide)) ?_
      refine x_b 2 (S2 := (86, [some (.ref b), some (.int x1), some (.int x2)], [.int x2, .int x1, .ref b], (hput h b (Md.cells b B29)), c, n)) rfl ?_
      obtain ⟨B31, h30, hr⟩ := bd_some hr
      refine x_c0 (m_184 hb hh h30) rfl rfl rfl rfl (am_recv_v (h_lt (i := 0) hb (by decide)) (hp_at (i := 0) hh rfl rfl) rfl) (by omega) ?_
      refine x_ldan rfl rfl rfl (h_lt (i := 0) hb (by decide)) ?_
      obtain ⟨v33, h32, hr⟩ := bd_some hr
      refine x_c0 (m_178 (hp_rg hb hh rfl) h32) rfl rfl rfl rfl (am_recv_v (h_lt (i := 0) hb (by decide)) (hp_at (i := 0) hh rfl rfl) rfl) (by omega) ?_
      cases hr
      rw [kr]
      exact x_ret rfl rfl am_ret_i
    · refine x_zf rfl rfl (decide_eq_false h27) ?_
      refine x_fg (Lq.n (Lq.n (Lq.n Lq.nil))) ?_
      exact j_187_0_j77 hd hb hh hr kr
def J_187_0_j30 (B : Md) (x1 : Int32) (x2 : Int32) (t0 : Int32) : Option (Int32 × (Md)) :=
  (F_135 B t0 2).bind fun (v11, B12) =>
  if v11 = 0 then
    (F_175 B12 x1 x2).bind fun v15 =>
    if ¬ v15 = 0 then
      J_187_0_j54 B12 x1 x2 0
    else
      J_187_0_j54 B12 x1 x2 1
  else
    J_187_0_j37 B12
theorem j_187_0_j30 {d : Nat} (hd : 5 ≤ d) {scr : ASc} {res : ARe} {c n : Nat} {h : AHp} {b : Nat} (hb : b + 17 ≤ am_SB) (hh : b + 17 ≤ h.length) {B : Md} {x1 : Int32} {x2 : Int32} {t0 : Int32} {o : Int32 × (Md)} (hr : J_187_0_j30 B x1 x2 t0 = some o) (kr : res = (.inl (some (.int o.1)), hput h b (Md.cells b o.2), c, n)) : Ex d am_M187 scr (30, [some (.ref b), some (.int x1), some (.int x2)], [.int t0, .ref b], (hput h b (Md.cells b B)), c, n) res := by
  delta J_187_0_j30 at hr
  refine x_b 1 (S2 := (31, [some (.ref b), some (.int x1), some (.int x2)], [.int 2, .int t0, .ref b], (hput h b (Md.cells b B)), c, n)) rfl ?_
  obtain ⟨⟨v11, B12⟩, h10, hr⟩ := bd_some hr
  refine x_c0 (m_135 hb hh h10) rfl rfl rfl rfl (am_recv_v (h_lt (i := 0) hb (by decide)) (hp_at (i := 0) hh rfl rfl) rfl) (by omega) ?_
  rcases ite_some hr with ⟨h13, hr⟩ | ⟨h13, hr⟩
  · refine x_zt rfl rfl (decide_eq_true h13) ?_
    refine x_ldan rfl rfl rfl (h_lt (i := 0) hb (by decide)) ?_
    refine x_ldan rfl rfl rfl (h_lt (i := 0) hb (by decide)) ?_
    refine x_b 2 (S2 := (43, [some (.ref b), some (.int x1), some (.int x2)], [.int x2, .int x1, .ref b, .ref b], (hput h b (Md.cells b B12)), c, n)) rfl ?_
    obtain ⟨v15, h14, hr⟩ := bd_some hr
    refine x_c0 (m_175 (hp_rg hb hh rfl) h14) rfl rfl rfl rfl (am_recv_v (h_lt (i := 0) hb (by decide)) (hp_at (i := 0) hh rfl rfl) rfl) (by omega) ?_
    rcases ite_some hr with ⟨h16, hr⟩ | ⟨h16, hr⟩
    · refine x_zt rfl rfl (decide_eq_true h16) ?_
      refine x_b 1 (S2 := (54, [some (.ref b), some (.int x1), some (.int x2)], [.int 0, .ref b], (hput h b (Md.cells b B12)), c, n)) rfl ?_
      refine x_fg (Lq.s (Lq.s (Lq.s Lq.nil))) ?_
      exact j_187_0_j54 hd hb hh hr kr
    · refine x_zf rfl rfl (decide_eq_false h16) ?_
      refine x_b 2 (S2 := (54, [some (.ref b), some (.int x1), some (.int x2)], [.int 1, .ref b], (hput h b (Md.cells b B12)), c, n)) rfl ?_
      refine x_fg (Lq.s (Lq.s (Lq.s Lq.nil))) ?_
      exact j_187_0_j54 hd hb hh hr kr
  · refine x_zf rfl rfl (decide_eq_false h13) ?_
    refine x_fg (Lq.n (Lq.n (Lq.n Lq.nil))) ?_
    exact j_187_0_j37 hd hb hh hr kr
/-- PebbleProofsModel.removeEdge(II)I -/
def F_187 (B : Md) (x1 : Int32) (x2 : Int32) : Option (Int32 × (Md)) :=
  (some (B.w_thrown 0)).bind fun B1 =>
  (F_173 B1 x1 x2).bind fun v4 =>
  (F_135 B1 v4 1).bind fun (v6, B7) =>
  if ¬ v6 = 0 then
    J_187_0_j37 B7
  else
    if x1 = x2 then
      J_187_0_j30 B7 x1 x2 0
    else
      J_187_0_j30 B7 x1 x2 1
theorem f_187 {d : Nat} (hd : 5 ≤ d) {scr : ASc} {res : ARe} {c n : Nat} {h : AHp} {b : Nat} (hb : b + 17 ≤ am_SB) (hh : b + 17 ≤ h.length) {B : Md} {x1 : Int32} {x2 : Int32} {o : Int32 × (Md)} (hr : F_187 B x1 x2 = some o) (kr : res = (.inl (some (.int o.1)), hput h b (Md.cells b o.2), c, n)) : Ex d am_M187 scr (0, [some (.ref b), some (.int x1), some (.int x2)], [], (hput h b (Md.cells b B)), c, n) res := by
  delta F_187 at hr
  refine x_ldan rfl rfl rfl (h_lt (i := 0) hb (by decide)) ?_
  refine x_b 1 (S2 := (2, [some (.ref b), some (.int x1), some (.int x2)], [.int 0, .ref b], (hput h b (Md.cells b B)), c, n)) rfl ?_
  obtain ⟨B1, h2, hr⟩ := bd_some hr
  refine x_putf (H := (hput h b (Md.cells b B1))) rfl rfl (h_lt (i := 0) hb (by decide)) (hp_at (i := 0) hh rfl rfl) ⟨(show 0 < 28 by decide), rfl, rfl, nofun⟩ (hp_set (i := 0) hh rfl (by decide) (Md.s_thrown rfl h2)) ?_
  refine x_ldan rfl rfl rfl (h_lt (i := 0) hb (by decide)) ?_
  refine x_ldan rfl rfl rfl (h_lt (i := 0) hb (by decide)) ?_
  refine x_b 2 (S2 := (9, [some (.ref b), some (.int x1), some (.int x2)], [.int x2, .int x1, .ref b, .ref b], (hput h b (Md.cells b B1)), c, n)) rfl ?_
  obtain ⟨v4, h3, hr⟩ := bd_some hr
  refine x_c0 (m_173 (hp_rg hb hh rfl) h3) rfl rfl rfl rfl (am_recv_v (h_lt (i := 0) hb (by decide)) (hp_at (i := 0) hh rfl rfl) rfl) (by omega) ?_
  refine x_b 1 (S2 := (13, [some (.ref b), some (.int x1), some (.int x2)], [.int 1, .int v4, .ref b], (hput h b (Md.cells b B1)), c, n)) rfl ?_
  obtain ⟨⟨v6, B7⟩, h5, hr⟩ := bd_some hr
  refine x_c0 (m_135 hb hh h5) rfl rfl rfl rfl (am_recv_v (h_lt (i := 0) hb (by decide)) (hp_at (i := 0) hh rfl rfl) rfl) (by omega) ?_
  rcases ite_some hr with ⟨h8, hr⟩ | ⟨h8, hr⟩
  · refine x_zt rfl rfl (decide_eq_true h8) ?_
    refine x_fg (Lq.n (Lq.n (Lq.n Lq.nil))) ?_
    exact j_187_0_j37 hd hb hh hr kr
  · refine x_zf rfl rfl (decide_eq_false h8) ?_
    refine x_ldan rfl rfl rfl (h_lt (i := 0) hb (by decide)) ?_
    refine x_b 2 (S2 := (22, [some (.ref b), some (.int x1), some (.int x2)], [.int x2, .int x1, .ref b], (hput h b (Md.cells b B7)), c, n)) rfl ?_
    rcases ite_some hr with ⟨h9, hr⟩ | ⟨h9, hr⟩
    · refine x_ct rfl rfl (decide_eq_true h9) ?_
      refine x_b 1 (S2 := (30, [some (.ref b), some (.int x1), some (.int x2)], [.int 0, .ref b], (hput h b (Md.cells b B7)), c, n)) rfl ?_
      refine x_fg (Lq.s (Lq.s (Lq.s Lq.nil))) ?_
      exact j_187_0_j30 hd hb hh hr kr
    · refine x_cf rfl rfl (decide_eq_false h9) ?_
      refine x_b 2 (S2 := (30, [some (.ref b), some (.int x1), some (.int x2)], [.int 1, .ref b], (hput h b (Md.cells b B7)), c, n)) rfl ?_
      refine x_fg (Lq.s (Lq.s (Lq.s Lq.nil))) ?_
      exact j_187_0_j30 hd hb hh hr kr
theorem m_187 {h : AHp} {b : Nat} (hb : b + 17 ≤ am_SB) (hh : b + 17 ≤ h.length) {B : Md} {x1 : Int32} {x2 : Int32} {o : Int32 × (Md)} (hr : F_187 B x1 x2 = some o) : Rn 6 187 [.ref b, .int x1, .int x2] (hput h b (Md.cells b B)) (.inl (some (.int o.1)), hput h b (Md.cells b o.2), 0, 0) :=
  x_meth (M := am_M187) rfl (show 3 ≤ 3 by decide) (f_187 (Nat.le_refl _) hb hh hr rfl)
def J_188_0_j56 (B : Md) : Option (Int32 × (Md)) :=
  some (0, B)
theorem j_188_0_j56 {d : Nat} (hd : 3 ≤ d) {scr : ASc} {res : ARe} {c n : Nat} {h : AHp} {b : Nat} (hb : b + 17 ≤ am_SB) (hh : b + 17 ≤ h.length) {B : Md} {o : Int32 × (Md)} (hr : J_188_0_j56 B = some o) (kr : res = (.inl (some (.int o.1)), hput h b (Md.cells b o.2), c, n)) : Ex d am_M188 scr (56, [none, none, none], [], (hput h b (Md.cells b B)), c, n) res := by
  delta J_188_0_j56 at hr
  refine x_b 1 (S2 := (57, [none, none, none], [.int 0], (hput h b (Md.cells b B)), c, n)) rfl ?_
  cases hr
  rw [kr]
  exact x_ret rfl rfl am_ret_i
def J_188_0_j49 (B : Md) (x1 : Int32) (x2 : Int32) (t0 : Int32) : Option (Int32 × (Md)) :=
  (F_135 B t0 2).bind fun (v13, B14) =>
  if v13 = 0 then
    (F_166 B14).bind fun B17 =>
    (ix (7 + x1) 93).bind fun i18 =>
    (some (B17.w_now (upd B17.now i18 ((B17.now i18) + x2)))).bind fun B20 =>
    (F_176 B20 x1).bind fun v23 =>
    some (v23, B20)
  else
    J_188_0_j56 B14
theorem j_188_0_j49 {d : Nat} (hd : 3 ≤ d) {scr : ASc} {res : ARe} {c n : Nat} {h : AHp} {b : Nat} (hb : b + 17 ≤ am_SB) (hh : b + 17 ≤ h.length) {B : Md} {x1 : Int32} {x2 : Int32} {t0 : Int32} {o : Int32 × (Md)} (hr : J_188_0_j49 B x1 x2 t0 = some o) (kr : res = (.inl (some (.int o.1)), hput h b (Md.cells b o.2), c, n)) : Ex d am_M188 scr (49, [some (.ref b), some (.int x1), some (.int x2)], [.int t0, .ref b], (hput h b (Md.cells b B)), c, n) res := by
  delta J_188_0_j49 at hr
  refine x_b 1 (S2 := (50, [some (.ref b), some (.int x1), some (.int x2)], [.int 2, .int t0, .ref b], (hput h b (Md.cells b B)), c, n)) rfl ?_
  obtain ⟨⟨v13, B14⟩, h12, hr⟩ := bd_some hr
  refine x_c0 (m_135 hb hh h12) rfl rfl rfl rfl (am_recv_v (h_lt (i := 0) hb (by decide)) (hp_at (i := 0) hh rfl rfl) rfl) (by omega) ?_
  rcases ite_some hr with ⟨h15, hr⟩ | ⟨h15, hr⟩
  · refine x_zt rfl rfl (decide_eq_true h15) ?_
    refine x_ldan rfl rfl rfl (h_lt (i := 0) hb (by decide)) ?_
    obtain ⟨B17, h16, hr⟩ := bd_some hr
    refine x_c0 (m_166 hb hh h16) rfl rfl rfl rfl (am_recv_v (h_lt (i := 0) hb (by decide)) (hp_at (i := 0) hh rfl rfl) rfl) (by omega) ?_
    refine x_ldan rfl rfl rfl (h_lt (i := 0) hb (by decide)) ?_
    refine x_getf rfl rfl (h_lt (i := 0) hb (by decide)) (hp_at (i := 0) hh rfl rfl) rfl ?_
    refine x_b 4 (S2 := (71, [some (.ref b), some (.int x1), some (.int x2)], [.int (7 + x1), .ref (b + 3), .int (7 + x1), .ref (b + 3)], (hput h b (Md.cells b B17)), c, n)) rfl ?_
    obtain ⟨i18, h19, hr⟩ := bd_some hr
    refine x_iald rfl rfl (h_lt (i := 3) hb (by decide)) (hp_at (i := 3) hh rfl rfl) h19 ?_
    refine x_b 2 (S2 := (74, [some (.ref b), some (.int x1), some (.int x2)], [.int ((B17.now i18) + x2), .int (7 + x1), .ref (b + 3)], (hput h b (Md.cells b B17)), c, n)) rfl ?_
    obtain ⟨B20, h21, hr⟩ := bd_some hr
    refine x_iast (H := (hput h b (Md.cells b B20))) rfl rfl (h_lt (i := 3) hb (by decide)) (hp_at (i := 3) hh rfl rfl) h19 (hp_set (i := 3) hh rfl (by decide) (Md.s_now h21)) ?_
    refine x_ldan rfl rfl rfl (h_lt (i := 0) hb (by decide)) ?_
    refine x_b 1 (S2 := (77, [some (.ref b), some (.int x1), some (.int x2)], [.int x1, .ref b], (hput h b (Md.cells b B20)), c, n)) rfl ?_
    obtain ⟨v23, h22, hr⟩ := bd_some hr
    refine x_c0 (m_176 (hp_rg hb hh rfl) h22) rfl rfl rfl rfl (am_recv_v (h_lt (i := 0) hb (by decide)) (hp_at (i := 0) hh rfl rfl) rfl) (by omega) ?_
    cases hr
    rw [kr]
    exact x_ret rfl rfl am_ret_i
  · refine x_zf rfl rfl (decide_eq_false h15) ?_
    refine x_fg (Lq.n (Lq.n (Lq.n Lq.nil))) ?_
    exact j_188_0_j56 hd hb hh hr kr
def J_188_0_j48 (B : Md) (x1 : Int32) (x2 : Int32) : Option (Int32 × (Md)) :=
  J_188_0_j49 B x1 x2 0
theorem j_188_0_j48 {d : Nat} (hd : 3 ≤ d) {scr : ASc} {res : ARe} {c n : Nat} {h : AHp} {b : Nat} (hb : b + 17 ≤ am_SB) (hh : b + 17 ≤ h.length) {B : Md} {x1 : Int32} {x2 : Int32} {o : Int32 × (Md)} (hr : J_188_0_j48 B x1 x2 = some o) (kr : res = (.inl (some (.int o.1)), hput h b (Md.cells b o.2), c, n)) : Ex d am_M188 scr (48, [some (.ref b), some (.int x1), some (.int x2)], [.ref b], (hput h b (Md.cells b B)), c, n) res := by
  delta J_188_0_j48 at hr
  refine x_b 1 (S2 := (49, [some (.ref b), some (.int x1), some (.int x2)], [.int 0, .ref b], (hput h b (Md.cells b B)), c, n)) rfl ?_
  refine x_fg (Lq.s (Lq.s (Lq.s Lq.nil))) ?_
  exact j_188_0_j49 hd hb hh hr kr
/-- PebbleProofsModel.put(II)I -/
def F_188 (B : Md) (x1 : Int32) (x2 : Int32) : Option (Int32 × (Md)) :=
  (some (B.w_thrown 0)).bind fun B1 =>
  (F_172 B1 x1).bind fun v4 =>
  (F_135 B1 v4 1).bind fun (v6, B7) =>
  if ¬ v6 = 0 then
    J_188_0_j56 B7
  else
    (F_134 x2.toInt64 1 (99 : Int64)).bind fun v10 =>
    if v10 = 0 then
      J_188_0_j48 B7 x1 x2
    else
      (F_176 B7 x1).bind fun v25 =>
      if 999 < (v25 + x2) then
        J_188_0_j48 B7 x1 x2
      else
        J_188_0_j49 B7 x1 x2 1
theorem f_188 {d : Nat} (hd : 3 ≤ d) {scr : ASc} {res : ARe} {c n : Nat} {h : AHp} {b : Nat} (hb : b + 17 ≤ am_SB) (hh : b + 17 ≤ h.length) {B : Md} {x1 : Int32} {x2 : Int32} {o : Int32 × (Md)} (hr : F_188 B x1 x2 = some o) (kr : res = (.inl (some (.int o.1)), hput h b (Md.cells b o.2), c, n)) : Ex d am_M188 scr (0, [some (.ref b), some (.int x1), some (.int x2)], [], (hput h b (Md.cells b B)), c, n) res := by
  delta F_188 at hr
  refine x_ldan rfl rfl rfl (h_lt (i := 0) hb (by decide)) ?_
  refine x_b 1 (S2 := (2, [some (.ref b), some (.int x1), some (.int x2)], [.int 0, .ref b], (hput h b (Md.cells b B)), c, n)) rfl ?_
  obtain ⟨B1, h2, hr⟩ := bd_some hr
  refine x_putf (H := (hput h b (Md.cells b B1))) rfl rfl (h_lt (i := 0) hb (by decide)) (hp_at (i := 0) hh rfl rfl) ⟨(show 0 < 28 by decide), rfl, rfl, nofun⟩ (hp_set (i := 0) hh rfl (by decide) (Md.s_thrown rfl h2)) ?_
  refine x_ldan rfl rfl rfl (h_lt (i := 0) hb (by decide)) ?_
  refine x_ldan rfl rfl rfl (h_lt (i := 0) hb (by decide)) ?_
  refine x_b 1 (S2 := (8, [some (.ref b), some (.int x1), some (.int x2)], [.int x1, .ref b, .ref b], (hput h b (Md.cells b B1)), c, n)) rfl ?_
  obtain ⟨v4, h3, hr⟩ := bd_some hr
  refine x_c0 (m_172 (hp_rg hb hh rfl) h3) rfl rfl rfl rfl (am_recv_v (h_lt (i := 0) hb (by decide)) (hp_at (i := 0) hh rfl rfl) rfl) (by omega) ?_
  refine x_b 1 (S2 := (12, [some (.ref b), some (.int x1), some (.int x2)], [.int 1, .int v4, .ref b], (hput h b (Md.cells b B1)), c, n)) rfl ?_
  obtain ⟨⟨v6, B7⟩, h5, hr⟩ := bd_some hr
  refine x_c0 (m_135 hb hh h5) rfl rfl rfl rfl (am_recv_v (h_lt (i := 0) hb (by decide)) (hp_at (i := 0) hh rfl rfl) rfl) (by omega) ?_
  rcases ite_some hr with ⟨h8, hr⟩ | ⟨h8, hr⟩
  · refine x_zt rfl rfl (decide_eq_true h8) ?_
    refine x_fg (Lq.n (Lq.n (Lq.n Lq.nil))) ?_
    exact j_188_0_j56 hd hb hh hr kr
  · refine x_zf rfl rfl (decide_eq_false h8) ?_
    refine x_ldan rfl rfl rfl (h_lt (i := 0) hb (by decide)) ?_
    refine x_b 4 (S2 := (25, [some (.ref b), some (.int x1), some (.int x2)], [.long (99 : Int64), .long 1, .long x2.toInt64, .ref b], (hput h b (Md.cells b B7)), c, n)) rfl ?_
    obtain ⟨v10, h9, hr⟩ := bd_some hr
    refine x_c0 (m_134 h9) rfl rfl rfl rfl rfl (by omega) ?_
    rcases ite_some hr with ⟨h11, hr⟩ | ⟨h11, hr⟩
    · refine x_zt rfl rfl (decide_eq_true h11) ?_
      refine x_fg (Lq.s (Lq.s (Lq.s Lq.nil))) ?_
      exact j_188_0_j48 hd hb hh hr kr
    · refine x_zf rfl rfl (decide_eq_false h11) ?_
      refine x_ldan rfl rfl rfl (h_lt (i := 0) hb (by decide)) ?_
      refine x_b 1 (S2 := (33, [some (.ref b), some (.int x1), some (.int x2)], [.int x1, .ref b, .ref b], (hput h b (Md.cells b B7)), c, n)) rfl ?_
      obtain ⟨v25, h24, hr⟩ := bd_some hr
      refine x_c0 (m_176 (hp_rg hb hh rfl) h24) rfl rfl rfl rfl (am_recv_v (h_lt (i := 0) hb (by decide)) (hp_at (i := 0) hh rfl rfl) rfl) (by omega) ?_
      refine x_b 3 (S2 := (41, [some (.ref b), some (.int x1), some (.int x2)], [.int 999, .int (v25 + x2), .ref b], (hput h b (Md.cells b B7)), c, n)) rfl ?_
      rcases ite_some hr with ⟨h26, hr⟩ | ⟨h26, hr⟩
      · refine x_ct rfl rfl (decide_eq_true h26) ?_
        refine x_fg (Lq.s (Lq.s (Lq.s Lq.nil))) ?_
        exact j_188_0_j48 hd hb hh hr kr
      · refine x_cf rfl rfl (decide_eq_false h26) ?_
        refine x_b 2 (S2 := (49, [some (.ref b), some (.int x1), some (.int x2)], [.int 1, .ref b], (hput h b (Md.cells b B7)), c, n)) rfl ?_
        refine x_fg (Lq.s (Lq.s (Lq.s Lq.nil))) ?_
        exact j_188_0_j49 hd hb hh hr kr
theorem m_188 {h : AHp} {b : Nat} (hb : b + 17 ≤ am_SB) (hh : b + 17 ≤ h.length) {B : Md} {x1 : Int32} {x2 : Int32} {o : Int32 × (Md)} (hr : F_188 B x1 x2 = some o) : Rn 4 188 [.ref b, .int x1, .int x2] (hput h b (Md.cells b B)) (.inl (some (.int o.1)), hput h b (Md.cells b o.2), 0, 0) :=
  x_meth (M := am_M188) rfl (show 3 ≤ 3 by decide) (f_188 (Nat.le_refl _) hb hh hr rfl)
def J_189_0_j58 (B : Md) : Option (Int32 × (Md)) :=
  some (0, B)
theorem j_189_0_j58 {d : Nat} (hd : 3 ≤ d) {scr : ASc} {res : ARe} {c n : Nat} {h : AHp} {b : Nat} (hb : b + 17 ≤ am_SB) (hh : b + 17 ≤ h.length) {B : Md} {o : Int32 × (Md)} (hr : J_189_0_j58 B = some o) (kr : res = (.inl (some (.int o.1)), hput h b (Md.cells b o.2), c, n)) : Ex d am_M189 scr (58, [none, none, none], [], (hput h b (Md.cells b B)), c, n) res := by
  delta J_189_0_j58 at hr
  refine x_b 1 (S2 := (59, [none, none, none], [.int 0], (hput h b (Md.cells b B)), c, n)) rfl ?_
  cases hr
  rw [kr]
  exact x_ret rfl rfl am_ret_i
def J_189_0_j50 (B : Md) (x1 : Int32) (x2 : Int32) (t0 : Int32) : Option (Int32 × (Md)) :=
  (F_180 B t0 5 3).bind fun (v19, B20) =>
  if v19 = 0 then
    (F_166 B20).bind fun B23 =>
    (ix (7 + x1) 93).bind fun i24 =>
    (some (B23.w_now (upd B23.now i24 ((B23.now i24) - x2)))).bind fun B26 =>
    (F_176 B26 x1).bind fun v29 =>
    some (v29, B26)
  else
    J_189_0_j58 B20
theorem j_189_0_j50 {d : Nat} (hd : 3 ≤ d) {scr : ASc} {res : ARe} {c n : Nat} {h : AHp} {b : Nat} (hb : b + 17 ≤ am_SB) (hh : b + 17 ≤ h.length) {B : Md} {x1 : Int32} {x2 : Int32} {t0 : Int32} {o : Int32 × (Md)} (hr : J_189_0_j50 B x1 x2 t0 = some o) (kr : res = (.inl (some (.int o.1)), hput h b (Md.cells b o.2), c, n)) : Ex d am_M189 scr (50, [some (.ref b), some (.int x1), some (.int x2)], [.int t0, .ref b], (hput h b (Md.cells b B)), c, n) res := by
  delta J_189_0_j50 at hr
  refine x_b 2 (S2 := (52, [some (.ref b), some (.int x1), some (.int x2)], [.int 3, .int 5, .int t0, .ref b], (hput h b (Md.cells b B)), c, n)) rfl ?_
  obtain ⟨⟨v19, B20⟩, h18, hr⟩ := bd_some hr
  refine x_c0 (m_180 hb hh h18) rfl rfl rfl rfl (am_recv_v (h_lt (i := 0) hb (by decide)) (hp_at (i := 0) hh rfl rfl) rfl) (by omega) ?_
  rcases ite_some hr with ⟨h21, hr⟩ | ⟨h21, hr⟩
  · refine x_zt rfl rfl (decide_eq_true h21) ?_
    refine x_ldan rfl rfl rfl (h_lt (i := 0) hb (by decide)) ?_
    obtain ⟨B23, h22, hr⟩ := bd_some hr
    refine x_c0 (m_166 hb hh h22) rfl rfl rfl rfl (am_recv_v (h_lt (i := 0) hb (by decide)) (hp_at (i := 0) hh rfl rfl) rfl) (by omega) ?_
    refine x_ldan rfl rfl rfl (h_lt (i := 0) hb (by decide)) ?_
    refine x_getf rfl rfl (h_lt (i := 0) hb (by decide)) (hp_at (i := 0) hh rfl rfl) rfl ?_
    refine x_b 4 (S2 := (73, [some (.ref b), some (.int x1), some (.int x2)], [.int (7 + x1), .ref (b + 3), .int (7 + x1), .ref (b + 3)], (hput h b (Md.cells b B23)), c, n)) rfl ?_
    obtain ⟨i24, h25, hr⟩ := bd_some hr
    refine x_iald rfl rfl (h_lt (i := 3) hb (by decide)) (hp_at (i := 3) hh rfl rfl) h25 ?_
    refine x_b 2 (S2 := (76, [some (.ref b), some (.int x1), some (.int x2)], [.int ((B23.now i24) - x2), .int (7 + x1), .ref (b + 3)], (hput h b (Md.cells b B23)), c, n)) rfl ?_
    obtain ⟨B26, h27, hr⟩ := bd_some hr
    refine x_iast (H := (hput h b (Md.cells b B26))) rfl rfl (h_lt (i := 3) hb (by decide)) (hp_at (i := 3) hh rfl rfl) h25 (hp_set (i := 3) hh rfl (by decide) (Md.s_now h27)) ?_
    refine x_ldan rfl rfl rfl (h_lt (i := 0) hb (by decide)) ?_
    refine x_b 1 (S2 := (79, [some (.ref b), some (.int x1), some (.int x2)], [.int x1, .ref b], (hput h b (Md.cells b B26)), c, n)) rfl ?_
    obtain ⟨v29, h28, hr⟩ := bd_some hr
    refine x_c0 (m_176 (hp_rg hb hh rfl) h28) rfl rfl rfl rfl (am_recv_v (h_lt (i := 0) hb (by decide)) (hp_at (i := 0) hh rfl rfl) rfl) (by omega) ?_
    cases hr
    rw [kr]
    exact x_ret rfl rfl am_ret_i
  · refine x_zf rfl rfl (decide_eq_false h21) ?_
    refine x_fg (Lq.n (Lq.n (Lq.n Lq.nil))) ?_
    exact j_189_0_j58 hd hb hh hr kr
/-- PebbleProofsModel.take(II)I -/
def F_189 (B : Md) (x1 : Int32) (x2 : Int32) : Option (Int32 × (Md)) :=
  (some (B.w_thrown 0)).bind fun B1 =>
  (F_172 B1 x1).bind fun v4 =>
  (F_135 B1 v4 1).bind fun (v6, B7) =>
  if ¬ v6 = 0 then
    J_189_0_j58 B7
  else
    (F_134 x2.toInt64 1 (99 : Int64)).bind fun v10 =>
    (F_135 B7 v10 2).bind fun (v12, B13) =>
    if ¬ v12 = 0 then
      J_189_0_j58 B13
    else
      (F_176 B13 x1).bind fun v16 =>
      if x2 ≤ v16 then
        J_189_0_j50 B13 x1 x2 0
      else
        J_189_0_j50 B13 x1 x2 1
theorem f_189 {d : Nat} (hd : 3 ≤ d) {scr : ASc} {res : ARe} {c n : Nat} {h : AHp} {b : Nat} (hb : b + 17 ≤ am_SB) (hh : b + 17 ≤ h.length) {B : Md} {x1 : Int32} {x2 : Int32} {o : Int32 × (Md)} (hr : F_189 B x1 x2 = some o) (kr : res = (.inl (some (.int o.1)), hput h b (Md.cells b o.2), c, n)) : Ex d am_M189 scr (0, [some (.ref b), some (.int x1), some (.int x2)], [], (hput h b (Md.cells b B)), c, n) res := by
  delta F_189 at hr
  refine x_ldan rfl rfl rfl (h_lt (i := 0) hb (by decide)) ?_
  refine x_b 1 (S2 := (2, [some (.ref b), some (.int x1), some (.int x2)], [.int 0, .ref b], (hput h b (Md.cells b B)), c, n)) rfl ?_
  obtain ⟨B1, h2, hr⟩ := bd_some hr
  refine x_putf (H := (hput h b (Md.cells b B1))) rfl rfl (h_lt (i := 0) hb (by decide)) (hp_at (i := 0) hh rfl rfl) ⟨(show 0 < 28 by decide), rfl, rfl, nofun⟩ (hp_set (i := 0) hh rfl (by decide) (Md.s_thrown rfl h2)) ?_
  refine x_ldan rfl rfl rfl (h_lt (i := 0) hb (by decide)) ?_
  refine x_ldan rfl rfl rfl (h_lt (i := 0) hb (by decide)) ?_
  refine x_b 1 (S2 := (8, [some (.ref b), some (.int x1), some (.int x2)], [.int x1, .ref b, .ref b], (hput h b (Md.cells b B1)), c, n)) rfl ?_
  obtain ⟨v4, h3, hr⟩ := bd_some hr
  refine x_c0 (m_172 (hp_rg hb hh rfl) h3) rfl rfl rfl rfl (am_recv_v (h_lt (i := 0) hb (by decide)) (hp_at (i := 0) hh rfl rfl) rfl) (by omega) ?_
  refine x_b 1 (S2 := (12, [some (.ref b), some (.int x1), some (.int x2)], [.int 1, .int v4, .ref b], (hput h b (Md.cells b B1)), c, n)) rfl ?_
  obtain ⟨⟨v6, B7⟩, h5, hr⟩ := bd_some hr
  refine x_c0 (m_135 hb hh h5) rfl rfl rfl rfl (am_recv_v (h_lt (i := 0) hb (by decide)) (hp_at (i := 0) hh rfl rfl) rfl) (by omega) ?_
  rcases ite_some hr with ⟨h8, hr⟩ | ⟨h8, hr⟩
  · refine x_zt rfl rfl (decide_eq_true h8) ?_
    refine x_fg (Lq.n (Lq.n (Lq.n Lq.nil))) ?_
    exact j_189_0_j58 hd hb hh hr kr
  · refine x_zf rfl rfl (decide_eq_false h8) ?_
    refine x_ldan rfl rfl rfl (h_lt (i := 0) hb (by decide)) ?_
    refine x_b 4 (S2 := (25, [some (.ref b), some (.int x1), some (.int x2)], [.long (99 : Int64), .long 1, .long x2.toInt64, .ref b], (hput h b (Md.cells b B7)), c, n)) rfl ?_
    obtain ⟨v10, h9, hr⟩ := bd_some hr
    refine x_c0 (m_134 h9) rfl rfl rfl rfl rfl (by omega) ?_
    refine x_b 1 (S2 := (29, [some (.ref b), some (.int x1), some (.int x2)], [.int 2, .int v10, .ref b], (hput h b (Md.cells b B7)), c, n)) rfl ?_
    obtain ⟨⟨v12, B13⟩, h11, hr⟩ := bd_some hr
    refine x_c0 (m_135 hb hh h11) rfl rfl rfl rfl (am_recv_v (h_lt (i := 0) hb (by decide)) (hp_at (i := 0) hh rfl rfl) rfl) (by omega) ?_
    rcases ite_some hr with ⟨h14, hr⟩ | ⟨h14, hr⟩
    · refine x_zt rfl rfl (decide_eq_true h14) ?_
      refine x_fg (Lq.n (Lq.n (Lq.n Lq.nil))) ?_
      exact j_189_0_j58 hd hb hh hr kr
    · refine x_zf rfl rfl (decide_eq_false h14) ?_
      refine x_ldan rfl rfl rfl (h_lt (i := 0) hb (by decide)) ?_
      refine x_ldan rfl rfl rfl (h_lt (i := 0) hb (by decide)) ?_
      refine x_b 1 (S2 := (38, [some (.ref b), some (.int x1), some (.int x2)], [.int x1, .ref b, .ref b], (hput h b (Md.cells b B13)), c, n)) rfl ?_
      obtain ⟨v16, h15, hr⟩ := bd_some hr
      refine x_c0 (m_176 (hp_rg hb hh rfl) h15) rfl rfl rfl rfl (am_recv_v (h_lt (i := 0) hb (by decide)) (hp_at (i := 0) hh rfl rfl) rfl) (by omega) ?_
      refine x_b 1 (S2 := (42, [some (.ref b), some (.int x1), some (.int x2)], [.int x2, .int v16, .ref b], (hput h b (Md.cells b B13)), c, n)) rfl ?_
      rcases ite_some hr with ⟨h17, hr⟩ | ⟨h17, hr⟩
      · refine x_ct rfl rfl (decide_eq_true h17) ?_
        refine x_b 1 (S2 := (50, [some (.ref b), some (.int x1), some (.int x2)], [.int 0, .ref b], (hput h b (Md.cells b B13)), c, n)) rfl ?_
        refine x_fg (Lq.s (Lq.s (Lq.s Lq.nil))) ?_
        exact j_189_0_j50 hd hb hh hr kr
      · refine x_cf rfl rfl (decide_eq_false h17) ?_
        refine x_b 2 (S2 := (50, [some (.ref b), some (.int x1), some (.int x2)], [.int 1, .ref b], (hput h b (Md.cells b B13)), c, n)) rfl ?_
        refine x_fg (Lq.s (Lq.s (Lq.s Lq.nil))) ?_
        exact j_189_0_j50 hd hb hh hr kr
theorem m_189 {h : AHp} {b : Nat} (hb : b + 17 ≤ am_SB) (hh : b + 17 ≤ h.length) {B : Md} {x1 : Int32} {x2 : Int32} {o : Int32 × (Md)} (hr : F_189 B x1 x2 = some o) : Rn 4 189 [.ref b, .int x1, .int x2] (hput h b (Md.cells b B)) (.inl (some (.int o.1)), hput h b (Md.cells b o.2), 0, 0) :=
  x_meth (M := am_M189) rfl (show 3 ≤ 3 by decide) (f_189 (Nat.le_refl _) hb hh hr rfl)
/-- PebbleProofsModel.makeMove(II)V -/
def F_190 (B : Md) (x1 : Int32) (x2 : Int32) : Option (Md) :=
  (ix (7 + x1) 93).bind fun i1 =>
  (some (B.w_now (upd B.now i1 ((B.now i1) - 2)))).bind fun B3 =>
  (ix (7 + x2) 93).bind fun i5 =>
  (some (B3.w_now (upd B3.now i5 ((B3.now i5) + 1)))).bind fun B7 =>
  (ix 13 93).bind fun i9 =>
  (some (B7.w_now (upd B7.now i9 ((B7.now i9) + 1)))).bind fun B11 =>
  some B11
theorem f_190 {d : Nat} (hd : 1 ≤ d) {scr : ASc} {res : ARe} {c n : Nat} {h : AHp} {b : Nat} (hb : b + 17 ≤ am_SB) (hh : b + 17 ≤ h.length) {B : Md} {x1 : Int32} {x2 : Int32} {o : Md} (hr : F_190 B x1 x2 = some o) (kr : res = (.inl (none), hput h b (Md.cells b o), c, n)) : Ex d am_M190 scr (0, [some (.ref b), some (.int x1), some (.int x2)], [], (hput h b (Md.cells b B)), c, n) res := by
  delta F_190 at hr
  refine x_ldan rfl rfl rfl (h_lt (i := 0) hb (by decide)) ?_
  refine x_getf rfl rfl (h_lt (i := 0) hb (by decide)) (hp_at (i := 0) hh rfl rfl) rfl ?_
  refine x_b 4 (S2 := (9, [some (.ref b), some (.int x1), some (.int x2)], [.int (7 + x1), .ref (b + 3), .int (7 + x1), .ref (b + 3)], (hput h b (Md.cells b B)), c, n)) rfl ?_
  obtain ⟨i1, h2, hr⟩ := bd_some hr
  refine x_iald rfl rfl (h_lt (i := 3) hb (by decide)) (hp_at (i := 3) hh rfl rfl) h2 ?_
  refine x_b 2 (S2 := (12, [some (.ref b), some (.int x1), some (.int x2)], [.int ((B.now i1) - 2), .int (7 + x1), .ref (b + 3)], (hput h b (Md.cells b B)), c, n)) rfl ?_
  obtain ⟨B3, h4, hr⟩ := bd_some hr
  refine x_iast (H := (hput h b (Md.cells b B3))) rfl rfl (h_lt (i := 3) hb (by decide)) (hp_at (i := 3) hh rfl rfl) h2 (hp_set (i := 3) hh rfl (by decide) (Md.s_now h4)) ?_
  refine x_ldan rfl rfl rfl (h_lt (i := 0) hb (by decide)) ?_
  refine x_getf rfl rfl (h_lt (i := 0) hb (by decide)) (hp_at (i := 0) hh rfl rfl) rfl ?_
  refine x_b 4 (S2 := (22, [some (.ref b), some (.int x1), some (.int x2)], [.int (7 + x2), .ref (b + 3), .int (7 + x2), .ref (b + 3)], (hput h b (Md.cells b B3)), c, n)) rfl ?_
  obtain ⟨i5, h6, hr⟩ := bd_some hr
  refine x_iald rfl rfl (h_lt (i := 3) hb (by decide)) (hp_at (i := 3) hh rfl rfl) h6 ?_
  refine x_b 2 (S2 := (25, [some (.ref b), some (.int x1), some (.int x2)], [.int ((B3.now i5) + 1), .int (7 + x2), .ref (b + 3)], (hput h b (Md.cells b B3)), c, n)) rfl ?_
  obtain ⟨B7, h8, hr⟩ := bd_some hr
  refine x_iast (H := (hput h b (Md.cells b B7))) rfl rfl (h_lt (i := 3) hb (by decide)) (hp_at (i := 3) hh rfl rfl) h6 (hp_set (i := 3) hh rfl (by decide) (Md.s_now h8)) ?_
  refine x_ldan rfl rfl rfl (h_lt (i := 0) hb (by decide)) ?_
  refine x_getf rfl rfl (h_lt (i := 0) hb (by decide)) (hp_at (i := 0) hh rfl rfl) rfl ?_
  refine x_b 2 (S2 := (33, [some (.ref b), some (.int x1), some (.int x2)], [.int 13, .ref (b + 3), .int 13, .ref (b + 3)], (hput h b (Md.cells b B7)), c, n)) rfl ?_
  obtain ⟨i9, h10, hr⟩ := bd_some hr
  refine x_iald rfl rfl (h_lt (i := 3) hb (by decide)) (hp_at (i := 3) hh rfl rfl) h10 ?_
  refine x_b 2 (S2 := (36, [some (.ref b), some (.int x1), some (.int x2)], [.int ((B7.now i9) + 1), .int 13, .ref (b + 3)], (hput h b (Md.cells b B7)), c, n)) rfl ?_
  obtain ⟨B11, h12, hr⟩ := bd_some hr
  refine x_iast (H := (hput h b (Md.cells b B11))) rfl rfl (h_lt (i := 3) hb (by decide)) (hp_at (i := 3) hh rfl rfl) h10 (hp_set (i := 3) hh rfl (by decide) (Md.s_now h12)) ?_
  cases hr
  rw [kr]
  exact x_ret rfl rfl rfl
theorem m_190 {h : AHp} {b : Nat} (hb : b + 17 ≤ am_SB) (hh : b + 17 ≤ h.length) {B : Md} {x1 : Int32} {x2 : Int32} {o : Md} (hr : F_190 B x1 x2 = some o) : Rn 2 190 [.ref b, .int x1, .int x2] (hput h b (Md.cells b B)) (.inl (none), hput h b (Md.cells b o), 0, 0) :=
  x_meth (M := am_M190) rfl (show 3 ≤ 3 by decide) (f_190 (Nat.le_refl _) hb hh hr rfl)
/-- PebbleProofsModel.takeMoveBack(II)V -/
def F_191 (B : Md) (x1 : Int32) (x2 : Int32) : Option (Md) :=
  (ix (7 + x1) 93).bind fun i1 =>
  (some (B.w_now (upd B.now i1 ((B.now i1) + 2)))).bind fun B3 =>
  (ix (7 + x2) 93).bind fun i5 =>
  (some (B3.w_now (upd B3.now i5 ((B3.now i5) - 1)))).bind fun B7 =>
  (ix 13 93).bind fun i9 =>
  (some (B7.w_now (upd B7.now i9 ((B7.now i9) - 1)))).bind fun B11 =>
  some B11
theorem f_191 {d : Nat} (hd : 1 ≤ d) {scr : ASc} {res : ARe} {c n : Nat} {h : AHp} {b : Nat} (hb : b + 17 ≤ am_SB) (hh : b + 17 ≤ h.length) {B : Md} {x1 : Int32} {x2 : Int32} {o : Md} (hr : F_191 B x1 x2 = some o) (kr : res = (.inl (none), hput h b (Md.cells b o), c, n)) : Ex d am_M191 scr (0, [some (.ref b), some (.int x1), some (.int x2)], [], (hput h b (Md.cells b B)), c, n) res := by
  delta F_191 at hr
  refine x_ldan rfl rfl rfl (h_lt (i := 0) hb (by decide)) ?_
  refine x_getf rfl rfl (h_lt (i := 0) hb (by decide)) (hp_at (i := 0) hh rfl rfl) rfl ?_
  refine x_b 4 (S2 := (9, [some (.ref b), some (.int x1), some (.int x2)], [.int (7 + x1), .ref (b + 3), .int (7 + x1), .ref (b + 3)], (hput h b (Md.cells b B)), c, n)) rfl ?_
  obtain ⟨i1, h2, hr⟩ := bd_some hr
  refine x_iald rfl rfl (h_lt (i := 3) hb (by decide)) (hp_at (i := 3) hh rfl rfl) h2 ?_
  refine x_b 2 (S2 := (12, [some (.ref b), some (.int x1), some (.int x2)], [.int ((B.now i1) + 2), .int (7 + x1), .ref (b + 3)], (hput h b (Md.cells b B)), c, n)) rfl ?_
  obtain ⟨B3, h4, hr⟩ := bd_some hr
  refine x_iast (H := (hput h b (Md.cells b B3))) rfl rfl (h_lt (i := 3) hb (by decide)) (hp_at (i := 3) hh rfl rfl) h2 (hp_set (i := 3) hh rfl (by decide) (Md.s_now h4)) ?_
  refine x_ldan rfl rfl rfl (h_lt (i := 0) hb (by decide)) ?_
  refine x_getf rfl rfl (h_lt (i := 0) hb (by decide)) (hp_at (i := 0) hh rfl rfl) rfl ?_
  refine x_b 4 (S2 := (22, [some (.ref b), some (.int x1), some (.int x2)], [.int (7 + x2), .ref (b + 3), .int (7 + x2), .ref (b + 3)], (hput h b (Md.cells b B3)), c, n)) rfl ?_
  obtain ⟨i5, h6, hr⟩ := bd_some hr
  refine x_iald rfl rfl (h_lt (i := 3) hb (by decide)) (hp_at (i := 3) hh rfl rfl) h6 ?_
  refine x_b 2 (S2 := (25, [some (.ref b), some (.int x1), some (.int x2)], [.int ((B3.now i5) - 1), .int (7 + x2), .ref (b + 3)], (hput h b (Md.cells b B3)), c, n)) rfl ?_
  obtain ⟨B7, h8, hr⟩ := bd_some hr
  refine x_iast (H := (hput h b (Md.cells b B7))) rfl rfl (h_lt (i := 3) hb (by decide)) (hp_at (i := 3) hh rfl rfl) h6 (hp_set (i := 3) hh rfl (by decide) (Md.s_now h8)) ?_
  refine x_ldan rfl rfl rfl (h_lt (i := 0) hb (by decide)) ?_
  refine x_getf rfl rfl (h_lt (i := 0) hb (by decide)) (hp_at (i := 0) hh rfl rfl) rfl ?_
  refine x_b 2 (S2 := (33, [some (.ref b), some (.int x1), some (.int x2)], [.int 13, .ref (b + 3), .int 13, .ref (b + 3)], (hput h b (Md.cells b B7)), c, n)) rfl ?_
  obtain ⟨i9, h10, hr⟩ := bd_some hr
  refine x_iald rfl rfl (h_lt (i := 3) hb (by decide)) (hp_at (i := 3) hh rfl rfl) h10 ?_
  refine x_b 2 (S2 := (36, [some (.ref b), some (.int x1), some (.int x2)], [.int ((B7.now i9) - 1), .int 13, .ref (b + 3)], (hput h b (Md.cells b B7)), c, n)) rfl ?_
  obtain ⟨B11, h12, hr⟩ := bd_some hr
  refine x_iast (H := (hput h b (Md.cells b B11))) rfl rfl (h_lt (i := 3) hb (by decide)) (hp_at (i := 3) hh rfl rfl) h10 (hp_set (i := 3) hh rfl (by decide) (Md.s_now h12)) ?_
  cases hr
  rw [kr]
  exact x_ret rfl rfl rfl
theorem m_191 {h : AHp} {b : Nat} (hb : b + 17 ≤ am_SB) (hh : b + 17 ≤ h.length) {B : Md} {x1 : Int32} {x2 : Int32} {o : Md} (hr : F_191 B x1 x2 = some o) : Rn 2 191 [.ref b, .int x1, .int x2] (hput h b (Md.cells b B)) (.inl (none), hput h b (Md.cells b o), 0, 0) :=
  x_meth (M := am_M191) rfl (show 3 ≤ 3 by decide) (f_191 (Nat.le_refl _) hb hh hr rfl)
def J_192_0_j34 (B : Md) (t0 : Int32) : Option (Int32) :=
  if t0 = 0 ∨ t0 = 1 then some t0 else none
theorem j_192_0_j34 {d : Nat} (hd : 3 ≤ d) {scr : ASc} {res : ARe} {c n : Nat} {H : AHp} {b : Nat} {B : Md} {t0 : Int32} (hR : Rg H b (Md.cells b B)) {o : Int32} (hr : J_192_0_j34 B t0 = some o) (kr : res = (.inl (some (.int o)), H, c, n)) : Ex d am_M192 scr (34, [none, none, none], [.int t0], H, c, n) res := by
  delta J_192_0_j34 at hr
  obtain ⟨h4, hr⟩ := itn_some hr
  cases hr
  rw [kr]
  exact x_ret rfl rfl (am_ret_z h4)
def J_192_0_j33 (B : Md) : Option (Int32) :=
  J_192_0_j34 B 0
theorem j_192_0_j33 {d : Nat} (hd : 3 ≤ d) {scr : ASc} {res : ARe} {c n : Nat} {H : AHp} {b : Nat} {B : Md} (hR : Rg H b (Md.cells b B)) {o : Int32} (hr : J_192_0_j33 B = some o) (kr : res = (.inl (some (.int o)), H, c, n)) : Ex d am_M192 scr (33, [none, none, none], [], H, c, n) res := by
  delta J_192_0_j33 at hr
  refine x_b 1 (S2 := (34, [none, none, none], [.int 0], H, c, n)) rfl ?_
  refine x_fg (Lq.s (Lq.s (Lq.s Lq.nil))) ?_
  exact j_192_0_j34 hd hR hr kr
/-- PebbleProofsModel.mayMove(II)Z -/
def F_192 (B : Md) (x1 : Int32) (x2 : Int32) : Option (Int32) :=
  (F_175 B x1 x2).bind fun v2 =>
  if v2 = 0 then
    J_192_0_j33 B
  else
    (F_176 B x1).bind fun v6 =>
    if v6 < 2 then
      J_192_0_j33 B
    else
      (F_176 B x2).bind fun v9 =>
      if 999 ≤ v9 then
        J_192_0_j33 B
      else
        J_192_0_j34 B 1
theorem f_192 {d : Nat} (hd : 3 ≤ d) {scr : ASc} {res : ARe} {c n : Nat} {H : AHp} {b : Nat} {B : Md} {x1 : Int32} {x2 : Int32} (hR : Rg H b (Md.cells b B)) {o : Int32} (hr : F_192 B x1 x2 = some o) (kr : res = (.inl (some (.int o)), H, c, n)) : Ex d am_M192 scr (0, [some (.ref b), some (.int x1), some (.int x2)], [], H, c, n) res := by
  delta F_192 at hr
  refine x_ldan rfl rfl rfl (hR.lt (i := 0) (show 0 < 17 by decide)) ?_
  refine x_b 2 (S2 := (3, [some (.ref b), some (.int x1), some (.int x2)], [.int x2, .int x1, .ref b], H, c, n)) rfl ?_
  obtain ⟨v2, h1, hr⟩ := bd_some hr
  refine x_c0 (m_175 hR h1) rfl rfl rfl rfl (am_recv_v (hR.lt (i := 0) (show 0 < 17 by decide)) (hR.at (i := 0) rfl) rfl) (by omega) ?_
  rcases ite_some hr with ⟨h3, hr⟩ | ⟨h3, hr⟩
  · refine x_zt rfl rfl (decide_eq_true h3) ?_
    refine x_fg (Lq.n (Lq.n (Lq.n Lq.nil))) ?_
    exact j_192_0_j33 hd hR hr kr
  · refine x_zf rfl rfl (decide_eq_false h3) ?_
    refine x_ldan rfl rfl rfl (hR.lt (i := 0) (show 0 < 17 by decide)) ?_
    refine x_b 1 (S2 := (11, [some (.ref b), some (.int x1), some (.int x2)], [.int x1, .ref b], H, c, n)) rfl ?_
    obtain ⟨v6, h5, hr⟩ := bd_some hr
    refine x_c0 (m_176 hR h5) rfl rfl rfl rfl (am_recv_v (hR.lt (i := 0) (show 0 < 17 by decide)) (hR.at (i := 0) rfl) rfl) (by omega) ?_
    refine x_b 1 (S2 := (15, [some (.ref b), some (.int x1), some (.int x2)], [.int 2, .int v6], H, c, n)) rfl ?_
    rcases ite_some hr with ⟨h7, hr⟩ | ⟨h7, hr⟩
    · refine x_ct rfl rfl (decide_eq_true h7) ?_
      refine x_fg (Lq.n (Lq.n (Lq.n Lq.nil))) ?_
      exact j_192_0_j33 hd hR hr kr
    · refine x_cf rfl rfl (decide_eq_false h7) ?_
      refine x_ldan rfl rfl rfl (hR.lt (i := 0) (show 0 < 17 by decide)) ?_
      refine x_b 1 (S2 := (20, [some (.ref b), some (.int x1), some (.int x2)], [.int x2, .ref b], H, c, n)) rfl ?_
      obtain ⟨v9, h8, hr⟩ := bd_some hr
      refine x_c0 (m_176 hR h8) rfl rfl rfl rfl (am_recv_v (hR.lt (i := 0) (show 0 < 17 by decide)) (hR.at (i := 0) rfl) rfl) (by omega) ?_
      refine x_b 1 (S2 := (26, [some (.ref b), some (.int x1), some (.int x2)], [.int 999, .int v9], H, c, n)) rfl ?_
      rcases ite_some hr with ⟨h10, hr⟩ | ⟨h10, hr⟩
      · refine x_ct rfl rfl (decide_eq_true h10) ?_
        refine x_fg (Lq.n (Lq.n (Lq.n Lq.nil))) ?_
        exact j_192_0_j33 hd hR hr kr
      · refine x_cf rfl rfl (decide_eq_false h10) ?_
        refine x_b 2 (S2 := (34, [some (.ref b), some (.int x1), some (.int x2)], [.int 1], H, c, n)) rfl ?_
        refine x_fg (Lq.n (Lq.n (Lq.n Lq.nil))) ?_
        exact j_192_0_j34 hd hR hr kr
theorem m_192 {H : AHp} {b : Nat} {B : Md} {x1 : Int32} {x2 : Int32} (hR : Rg H b (Md.cells b B)) {o : Int32} (hr : F_192 B x1 x2 = some o) : Rn 4 192 [.ref b, .int x1, .int x2] H (.inl (some (.int o)), H, 0, 0) :=
  x_meth (M := am_M192) rfl (show 3 ≤ 3 by decide) (f_192 (Nat.le_refl _) hR hr rfl)
def J_193_0_j42 (B : Md) : Option (Int32 × (Md)) :=
  some (0, B)
theorem j_193_0_j42 {d : Nat} (hd : 4 ≤ d) {scr : ASc} {res : ARe} {c n : Nat} {h : AHp} {b : Nat} (hb : b + 17 ≤ am_SB) (hh : b + 17 ≤ h.length) {B : Md} {o : Int32 × (Md)} (hr : J_193_0_j42 B = some o) (kr : res = (.inl (some (.int o.1)), hput h b (Md.cells b o.2), c, n)) : Ex d am_M193 scr (42, [none, none, none], [], (hput h b (Md.cells b B)), c, n) res := by
  delta J_193_0_j42 at hr
  refine x_b 1 (S2 := (43, [none, none, none], [.int 0], (hput h b (Md.cells b B)), c, n)) rfl ?_
  cases hr
  rw [kr]
  exact x_ret rfl rfl am_ret_i
def J_193_0_j93 (B : Md) : Option (Int32 × (Md)) :=
  some (0, B)
theorem j_193_0_j93 {d : Nat} (hd : 4 ≤ d) {scr : ASc} {res : ARe} {c n : Nat} {h : AHp} {b : Nat} (hb : b + 17 ≤ am_SB) (hh : b + 17 ≤ h.length) {B : Md} {o : Int32 × (Md)} (hr : J_193_0_j93 B = some o) (kr : res = (.inl (some (.int o.1)), hput h b (Md.cells b o.2), c, n)) : Ex d am_M193 scr (93, [none, none, none], [], (hput h b (Md.cells b B)), c, n) res := by
  delta J_193_0_j93 at hr
  refine x_b 1 (S2 := (94, [none, none, none], [.int 0], (hput h b (Md.cells b B)), c, n)) rfl ?_
  cases hr
  rw [kr]
  exact x_ret rfl rfl am_ret_i
def J_193_0_j84 (B : Md) (x1 : Int32) (x2 : Int32) (t0 : Int32) : Option (Int32 × (Md)) :=
  (F_180 B t0 6 2).bind fun (v27, B28) =>
  if v27 = 0 then
    (F_166 B28).bind fun B31 =>
    (F_190 B31 x1 x2).bind fun B33 =>
    (F_176 B33 x2).bind fun v35 =>
    some (v35, B33)
  else
    J_193_0_j93 B28
theorem j_193_0_j84 {d : Nat} (hd : 4 ≤ d) {scr : ASc} {res : ARe} {c n : Nat} {h : AHp} {b : Nat} (hb : b + 17 ≤ am_SB) (hh : b + 17 ≤ h.length) {B : Md} {x1 : Int32} {x2 : Int32} {t0 : Int32} {o : Int32 × (Md)} (hr : J_193_0_j84 B x1 x2 t0 = some o) (kr : res = (.inl (some (.int o.1)), hput h b (Md.cells b o.2), c, n)) : Ex d am_M193 scr (84, [some (.ref b), some (.int x1), some (.int x2)], [.int t0, .ref b], (hput h b (Md.cells b B)), c, n) res := by
  delta J_193_0_j84 at hr
  refine x_b 2 (S2 := (87, [some (.ref b), some (.int x1), some (.int x2)], [.int 2, .int 6, .int t0, .ref b], (hput h b (Md.cells b B)), c, n)) rfl ?_
  obtain ⟨⟨v27, B28⟩, h26, hr⟩ := bd_some hr
  refine x_c0 (m_180 hb hh h26) rfl rfl rfl rfl (am_recv_v (h_lt (i := 0) hb (by decide)) (hp_at (i := 0) hh rfl rfl) rfl) (by omega) ?_
  rcases ite_some hr with ⟨h29, hr⟩ | ⟨h29, hr⟩
  · refine x_zt rfl rfl (decide_eq_true h29) ?_
    refine x_ldan rfl rfl rfl (h_lt (i := 0) hb (by decide)) ?_
    obtain ⟨B31, h30, hr⟩ := bd_some hr
    refine x_c0 (m_166 hb hh h30) rfl rfl rfl rfl (am_recv_v (h_lt (i := 0) hb (by decide)) (hp_at (i := 0) hh rfl rfl) rfl) (by omega) ?_
    refine x_ldan rfl rfl rfl (h_lt (i := 0) hb (by decide)) ?_
    refine x_b 2 (S2 := (102, [some (.ref b), some (.int x1), some (.int x2)], [.int x2, .int x1, .ref b], (hput h b (Md.cells b B31)), c, n)) rfl ?_
    obtain ⟨B33, h32, hr⟩ := bd_some hr
    refine x_c0 (m_190 hb hh h32) rfl rfl rfl rfl (am_recv_v (h_lt (i := 0) hb (by decide)) (hp_at (i := 0) hh rfl rfl) rfl) (by omega) ?_
    refine x_ldan rfl rfl rfl (h_lt (i := 0) hb (by decide)) ?_
    refine x_b 1 (S2 := (107, [some (.ref b), some (.int x1), some (.int x2)], [.int x2, .ref b], (hput h b (Md.cells b B33)), c, n)) rfl ?_
    obtain ⟨v35, h34, hr⟩ := bd_some hr
    refine x_c0 (m_176 (hp_rg hb hh rfl) h34) rfl rfl rfl rfl (am_recv_v (h_lt (i := 0) hb (by decide)) (hp_at (i := 0) hh rfl rfl) rfl) (by omega) ?_
    cases hr
    rw [kr]
    exact x_ret rfl rfl am_ret_i
  · refine x_zf rfl rfl (decide_eq_false h29) ?_
    refine x_fg (Lq.n (Lq.n (Lq.n Lq.nil))) ?_
    exact j_193_0_j93 hd hb hh hr kr
def J_193_0_j59 (B : Md) (x1 : Int32) (x2 : Int32) (t0 : Int32) : Option (Int32 × (Md)) :=
  (F_180 B t0 5 2).bind fun (v20, B21) =>
  if ¬ v20 = 0 then
    J_193_0_j93 B21
  else
    (F_176 B21 x2).bind fun v24 =>
    if ¬ v24 = 999 then
      J_193_0_j84 B21 x1 x2 0
    else
      J_193_0_j84 B21 x1 x2 1
theorem j_193_0_j59 {d : Nat} (hd : 4 ≤ d) {scr : ASc} {res : ARe} {c n : Nat} {h : AHp} {b : Nat} (hb : b + 17 ≤ am_SB) (hh : b + 17 ≤ h.length) {B : Md} {x1 : Int32} {x2 : Int32} {t0 : Int32} {o : Int32 × (Md)} (hr : J_193_0_j59 B x1 x2 t0 = some o) (kr : res = (.inl (some (.int o.1)), hput h b (Md.cells b o.2), c, n)) : Ex d am_M193 scr (59, [some (.ref b), some (.int x1), some (.int x2)], [.int t0, .ref b], (hput h b (Md.cells b B)), c, n) res := by
  delta J_193_0_j59 at hr
  refine x_b 2 (S2 := (61, [some (.ref b), some (.int x1), some (.int x2)], [.int 2, .int 5, .int t0, .ref b], (hput h b (Md.cells b B)), c, n)) rfl ?_
  obtain ⟨⟨v20, B21⟩, h19, hr⟩ := bd_some hr
  refine x_c0 (m_180 hb hh h19) rfl rfl rfl rfl (am_recv_v (h_lt (i := 0) hb (by decide)) (hp_at (i := 0) hh rfl rfl) rfl) (by omega) ?_
  rcases ite_some hr with ⟨h22, hr⟩ | ⟨h22, hr⟩
  · refine x_zt rfl rfl (decide_eq_true h22) ?_
    refine x_fg (Lq.n (Lq.n (Lq.n Lq.nil))) ?_
    exact j_193_0_j93 hd hb hh hr kr
  · refine x_zf rfl rfl (decide_eq_false h22) ?_
    refine x_ldan rfl rfl rfl (h_lt (i := 0) hb (by decide)) ?_
    refine x_ldan rfl rfl rfl (h_lt (i := 0) hb (by decide)) ?_
    refine x_b 1 (S2 := (70, [some (.ref b), some (.int x1), some (.int x2)], [.int x2, .ref b, .ref b], (hput h b (Md.cells b B21)), c, n)) rfl ?_
    obtain ⟨v24, h23, hr⟩ := bd_some hr
    refine x_c0 (m_176 (hp_rg hb hh rfl) h23) rfl rfl rfl rfl (am_recv_v (h_lt (i := 0) hb (by decide)) (hp_at (i := 0) hh rfl rfl) rfl) (by omega) ?_
    refine x_b 1 (S2 := (76, [some (.ref b), some (.int x1), some (.int x2)], [.int 999, .int v24, .ref b], (hput h b (Md.cells b B21)), c, n)) rfl ?_
    rcases ite_some hr with ⟨h25, hr⟩ | ⟨h25, hr⟩
    · refine x_ct rfl rfl (decide_eq_true h25) ?_
      refine x_b 1 (S2 := (84, [some (.ref b), some (.int x1), some (.int x2)], [.int 0, .ref b], (hput h b (Md.cells b B21)), c, n)) rfl ?_
      refine x_fg (Lq.s (Lq.s (Lq.s Lq.nil))) ?_
      exact j_193_0_j84 hd hb hh hr kr
    · refine x_cf rfl rfl (decide_eq_false h25) ?_
      refine x_b 2 (S2 := (84, [some (.ref b), some (.int x1), some (.int x2)], [.int 1, .ref b], (hput h b (Md.cells b B21)), c, n)) rfl ?_
      refine x_fg (Lq.s (Lq.s (Lq.s Lq.nil))) ?_
      exact j_193_0_j84 hd hb hh hr kr
def J_193_0_j34 (B : Md) (x1 : Int32) (x2 : Int32) (t0 : Int32) : Option (Int32 × (Md)) :=
  (F_180 B t0 4 2).bind fun (v13, B14) =>
  if v13 = 0 then
    (F_176 B14 x1).bind fun v17 =>
    if 2 ≤ v17 then
      J_193_0_j59 B14 x1 x2 0
    else
      J_193_0_j59 B14 x1 x2 1
  else
    J_193_0_j42 B14
theorem j_193_0_j34 {d : Nat} (hd : 4 ≤ d) {scr : ASc} {res : ARe} {c n : Nat} {h : AHp} {b : Nat} (hb : b + 17 ≤ am_SB) (hh : b + 17 ≤ h.length) {B : Md} {x1 : Int32} {x2 : Int32} {t0 : Int32} {o : Int32 × (Md)} (hr : J_193_0_j34 B x1 x2 t0 = some o) (kr : res = (.inl (some (.int o.1)), hput h b (Md.cells b o.2), c, n)) : Ex d am_M193 scr (34, [some (.ref b), some (.int x1), some (.int x2)], [.int t0, .ref b], (hput h b (Md.cells b B)), c, n) res := by
  delta J_193_0_j34 at hr
  refine x_b 2 (S2 := (36, [some (.ref b), some (.int x1), some (.int x2)], [.int 2, .int 4, .int t0, .ref b], (hput h b (Md.cells b B)), c, n)) rfl ?_
  obtain ⟨⟨v13, B14⟩, h12, hr⟩ := bd_some hr
  refine x_c0 (m_180 hb hh h12) rfl rfl rfl rfl (am_recv_v (h_lt (i := 0) hb (by decide)) (hp_at (i := 0) hh rfl rfl) rfl) (by omega) ?_
  rcases ite_some hr with ⟨h15, hr⟩ | ⟨h15, hr⟩
  · refine x_zt rfl rfl (decide_eq_true h15) ?_
    refine x_ldan rfl rfl rfl (h_lt (i := 0) hb (by decide)) ?_
    refine x_ldan rfl rfl rfl (h_lt (i := 0) hb (by decide)) ?_
    refine x_b 1 (S2 := (47, [some (.ref b), some (.int x1), some (.int x2)], [.int x1, .ref b, .ref b], (hput h b (Md.cells b B14)), c, n)) rfl ?_
    obtain ⟨v17, h16, hr⟩ := bd_some hr
    refine x_c0 (m_176 (hp_rg hb hh rfl) h16) rfl rfl rfl rfl (am_recv_v (h_lt (i := 0) hb (by decide)) (hp_at (i := 0) hh rfl rfl) rfl) (by omega) ?_
    refine x_b 1 (S2 := (51, [some (.ref b), some (.int x1), some (.int x2)], [.int 2, .int v17, .ref b], (hput h b (Md.cells b B14)), c, n)) rfl ?_
    rcases ite_some hr with ⟨h18, hr⟩ | ⟨h18, hr⟩
    · refine x_ct rfl rfl (decide_eq_true h18) ?_
      refine x_b 1 (S2 := (59, [some (.ref b), some (.int x1), some (.int x2)], [.int 0, .ref b], (hput h b (Md.cells b B14)), c, n)) rfl ?_
      refine x_fg (Lq.s (Lq.s (Lq.s Lq.nil))) ?_
      exact j_193_0_j59 hd hb hh hr kr
    · refine x_cf rfl rfl (decide_eq_false h18) ?_
      refine x_b 2 (S2 := (59, [some (.ref b), some (.int x1), some (.int x2)], [.int 1, .ref b], (hput h b (Md.cells b B14)), c, n)) rfl ?_
      refine x_fg (Lq.s (Lq.s (Lq.s Lq.nil))) ?_
      exact j_193_0_j59 hd hb hh hr kr
  · refine x_zf rfl rfl (decide_eq_false h15) ?_
    refine x_fg (Lq.n (Lq.n (Lq.n Lq.nil))) ?_
    exact j_193_0_j42 hd hb hh hr kr
/-- PebbleProofsModel.move(II)I -/
def F_193 (B : Md) (x1 : Int32) (x2 : Int32) : Option (Int32 × (Md)) :=
  (some (B.w_thrown 0)).bind fun B1 =>
  (F_173 B1 x1 x2).bind fun v4 =>
  (F_135 B1 v4 1).bind fun (v6, B7) =>
  if ¬ v6 = 0 then
    J_193_0_j42 B7
  else
    (F_175 B7 x1 x2).bind fun v10 =>
    if ¬ v10 = 0 then
      J_193_0_j34 B7 x1 x2 0
    else
      J_193_0_j34 B7 x1 x2 1
theorem f_193 {d : Nat} (hd : 4 ≤ d) {scr : ASc} {res : ARe} {c n : Nat} {h : AHp} {b : Nat} (hb : b + 17 ≤ am_SB) (hh : b + 17 ≤ h.length) {B : Md} {x1 : Int32} {x2 : Int32} {o : Int32 × (Md)} (hr : F_193 B x1 x2 = some o) (kr : res = (.inl (some (.int o.1)), hput h b (Md.cells b o.2), c, n)) : Ex d am_M193 scr (0, [some (.ref b), some (.int x1), some (.int x2)], [], (hput h b (Md.cells b B)), c, n) res := by
  delta F_193 at hr
  refine x_ldan rfl rfl rfl (h_lt (i := 0) hb (by decide)) ?_
  refine x_b 1 (S2 := (2, [some (.ref b), some (.int x1), some (.int x2)], [.int 0, .ref b], (hput h b (Md.cells b B)), c, n)) rfl ?_
  obtain ⟨B1, h2, hr⟩ := bd_some hr
  refine x_putf (H := (hput h b (Md.cells b B1))) rfl rfl (h_lt (i := 0) hb (by decide)) (hp_at (i := 0) hh rfl rfl) ⟨(show 0 < 28 by decide), rfl, rfl, nofun⟩ (hp_set (i := 0) hh rfl (by decide) (Md.s_thrown rfl h2)) ?_
  refine x_ldan rfl rfl rfl (h_lt (i := 0) hb (by decide)) ?_
  refine x_ldan rfl rfl rfl (h_lt (i := 0) hb (by decide)) ?_
  refine x_b 2 (S2 := (9, [some (.ref b), some (.int x1), some (.int x2)], [.int x2, .int x1, .ref b, .ref b], (hput h b (Md.cells b B1)), c, n)) rfl ?_
  obtain ⟨v4, h3, hr⟩ := bd_some hr
  refine x_c0 (m_173 (hp_rg hb hh rfl) h3) rfl rfl rfl rfl (am_recv_v (h_lt (i := 0) hb (by decide)) (hp_at (i := 0) hh rfl rfl) rfl) (by omega) ?_
  refine x_b 1 (S2 := (13, [some (.ref b), some (.int x1), some (.int x2)], [.int 1, .int v4, .ref b], (hput h b (Md.cells b B1)), c, n)) rfl ?_
  obtain ⟨⟨v6, B7⟩, h5, hr⟩ := bd_some hr
  refine x_c0 (m_135 hb hh h5) rfl rfl rfl rfl (am_recv_v (h_lt (i := 0) hb (by decide)) (hp_at (i := 0) hh rfl rfl) rfl) (by omega) ?_
  rcases ite_some hr with ⟨h8, hr⟩ | ⟨h8, hr⟩
  · refine x_zt rfl rfl (decide_eq_true h8) ?_
    refine x_fg (Lq.n (Lq.n (Lq.n Lq.nil))) ?_
    exact j_193_0_j42 hd hb hh hr kr
  · refine x_zf rfl rfl (decide_eq_false h8) ?_
    refine x_ldan rfl rfl rfl (h_lt (i := 0) hb (by decide)) ?_
    refine x_ldan rfl rfl rfl (h_lt (i := 0) hb (by decide)) ?_
    refine x_b 2 (S2 := (23, [some (.ref b), some (.int x1), some (.int x2)], [.int x2, .int x1, .ref b, .ref b], (hput h b (Md.cells b B7)), c, n)) rfl ?_
    obtain ⟨v10, h9, hr⟩ := bd_some hr
    refine x_c0 (m_175 (hp_rg hb hh rfl) h9) rfl rfl rfl rfl (am_recv_v (h_lt (i := 0) hb (by decide)) (hp_at (i := 0) hh rfl rfl) rfl) (by omega) ?_
    rcases ite_some hr with ⟨h11, hr⟩ | ⟨h11, hr⟩
    · refine x_zt rfl rfl (decide_eq_true h11) ?_
      refine x_b 1 (S2 := (34, [some (.ref b), some (.int x1), some (.int x2)], [.int 0, .ref b], (hput h b (Md.cells b B7)), c, n)) rfl ?_
      refine x_fg (Lq.s (Lq.s (Lq.s Lq.nil))) ?_
      exact j_193_0_j34 hd hb hh hr kr
    · refine x_zf rfl rfl (decide_eq_false h11) ?_
      refine x_b 2 (S2 := (34, [some (.ref b), some (.int x1), some (.int x2)], [.int 1, .ref b], (hput h b (Md.cells b B7)), c, n)) rfl ?_
      refine x_fg (Lq.s (Lq.s (Lq.s Lq.nil))) ?_
      exact j_193_0_j34 hd hb hh hr kr
theorem m_193 {h : AHp} {b : Nat} (hb : b + 17 ≤ am_SB) (hh : b + 17 ≤ h.length) {B : Md} {x1 : Int32} {x2 : Int32} {o : Int32 × (Md)} (hr : F_193 B x1 x2 = some o) : Rn 5 193 [.ref b, .int x1, .int x2] (hput h b (Md.cells b B)) (.inl (some (.int o.1)), hput h b (Md.cells b o.2), 0, 0) :=
  x_meth (M := am_M193) rfl (show 3 ≤ 3 by decide) (f_193 (Nat.le_refl _) hb hh hr rfl)
abbrev P_206_19 (h : AHp) (b : Nat) (c n : Nat) (x1 : Int32) (s : Int32 × (Md)) : ASt := (19, [some (.ref b), some (.int x1), some (.int s.1)], [], (hput h b (Md.cells b s.2)), c, n)
abbrev PX_206_19 (h : AHp) (b : Nat) (c n : Nat) (x1 : Int32) (s : (Md)) : ASt := (68, [none, none, none], [], (hput h b (Md.cells b s)), c, n)
def G_206_19 (x1 : Int32) (s : Int32 × (Md)) : Option ((Int32 × (Md)) ⊕ ((Md))) := 
  match s with
  | (x2, B) =>
    if x2 < 0 then
      some (.inr B)
    else
      (F_183 B x1 x2).bind fun v9 =>
      (ix x2 6).bind fun i10 =>
      (some (B.w_room (upd B.room i10 (1 <<< (v9 &&& 31))))).bind fun B12 =>
      (some (B12.w_unit (upd B12.unit i10 B12.piles))).bind fun B14 =>
      (some (B14.w_piles (B14.piles * (B14.room i10)))).bind fun B16 =>
      some (.inl ((x2 + (-1)), B16))
theorem g_206_19 {d : Nat} (hd : 3 ≤ d) {scr : ASc} {res : ARe} {c n : Nat} {h : AHp} {b : Nat} (hb : b + 17 ≤ am_SB) (hh : b + 17 ≤ h.length) {x1 : Int32} {s : Int32 × (Md)} {o : (Int32 × (Md)) ⊕ ((Md))} (hr : G_206_19 x1 s = some o) (ka : ∀ s, o = .inl s → Ex d am_M206 scr (P_206_19 h b c n x1 s) res) (kx : ∀ s, o = .inr s → Ex d am_M206 scr (PX_206_19 h b c n x1 s) res) : Ex d am_M206 scr (P_206_19 h b c n x1 s) res := by
  obtain ⟨x2, B⟩ := s
  delta G_206_19 at hr
  show Ex d am_M206 scr (19, [some (.ref b), some (.int x1), some (.int x2)], [], (hput h b (Md.cells b B)), c, n) res
  refine x_b 1 (S2 := (20, [some (.ref b), some (.int x1), some (.int x2)], [.int x2], (hput h b (Md.cells b B)), c, n)) rfl ?_
  rcases ite_some hr with ⟨h7, hr⟩ | ⟨h7, hr⟩
  · refine x_zt rfl rfl (decide_eq_true h7) ?_
    refine x_fg (Lq.n (Lq.n (Lq.n Lq.nil))) ?_
    exact kx B (Option.some.inj hr).symm
  · refine x_zf rfl rfl (decide_eq_false h7) ?_
    refine x_ldan rfl rfl rfl (h_lt (i := 0) hb (by decide)) ?_
    refine x_getf rfl rfl (h_lt (i := 0) hb (by decide)) (hp_at (i := 0) hh rfl rfl) rfl ?_
    refine x_b 2 (S2 := (29, [some (.ref b), some (.int x1), some (.int x2)], [.int 1, .int x2, .ref (b + 11)], (hput h b (Md.cells b B)), c, n)) rfl ?_
    refine x_ldan rfl rfl rfl (h_lt (i := 0) hb (by decide)) ?_
    refine x_b 2 (S2 := (32, [some (.ref b), some (.int x1), some (.int x2)], [.int x2, .int x1, .ref b, .int 1, .int x2, .ref (b + 11)], (hput h b (Md.cells b B)), c, n)) rfl ?_
    obtain ⟨v9, h8, hr⟩ := bd_some hr
    refine x_c0 (m_183 (hp_rg hb hh rfl) h8) rfl rfl rfl rfl (am_recv_v (h_lt (i := 0) hb (by decide)) (hp_at (i := 0) hh rfl rfl) rfl) (by omega) ?_
    refine x_b 1 (S2 := (36, [some (.ref b), some (.int x1), some (.int x2)], [.int (1 <<< (v9 &&& 31)), .int x2, .ref (b + 11)], (hput h b (Md.cells b B)), c, n)) rfl ?_
    obtain ⟨i10, h11, hr⟩ := bd_some hr
    obtain ⟨B12, h13, hr⟩ := bd_some hr
    refine x_iast (H := (hput h b (Md.cells b B12))) rfl rfl (h_lt (i := 11) hb (by decide)) (hp_at (i := 11) hh rfl rfl) h11 (hp_set (i := 11) hh rfl (by decide) (Md.s_room h13)) ?_
    refine x_ldan rfl rfl rfl (h_lt (i := 0) hb (by decide)) ?_
    refine x_getf rfl rfl (h_lt (i := 0) hb (by decide)) (hp_at (i := 0) hh rfl rfl) rfl ?_
    refine x_b 1 (S2 := (42, [some (.ref b), some (.int x1), some (.int x2)], [.int x2, .ref (b + 12)], (hput h b (Md.cells b B12)), c, n)) rfl ?_
    refine x_ldan rfl rfl rfl (h_lt (i := 0) hb (by decide)) ?_
    refine x_getf rfl rfl (h_lt (i := 0) hb (by decide)) (hp_at (i := 0) hh rfl rfl) rfl ?_
    obtain ⟨B14, h15, hr⟩ := bd_some hr
    refine x_iast (H := (hput h b (Md.cells b B14))) rfl rfl (h_lt (i := 12) hb (by decide)) (hp_at (i := 12) hh rfl rfl) h11 (hp_set (i := 12) hh rfl (by decide) (Md.s_unit h15)) ?_
    refine x_ldan rfl rfl rfl (h_lt (i := 0) hb (by decide)) ?_
    refine x_b 1 (S2 := (49, [some (.ref b), some (.int x1), some (.int x2)], [.ref b, .ref b], (hput h b (Md.cells b B14)), c, n)) rfl ?_
    refine x_getf rfl rfl (h_lt (i := 0) hb (by decide)) (hp_at (i := 0) hh rfl rfl) rfl ?_
    refine x_ldan rfl rfl rfl (h_lt (i := 0) hb (by decide)) ?_
    refine x_getf rfl rfl (h_lt (i := 0) hb (by decide)) (hp_at (i := 0) hh rfl rfl) rfl ?_
    refine x_b 1 (S2 := (57, [some (.ref b), some (.int x1), some (.int x2)], [.int x2, .ref (b + 11), .int B14.piles, .ref b], (hput h b (Md.cells b B14)), c, n)) rfl ?_
    refine x_iald rfl rfl (h_lt (i := 11) hb (by decide)) (hp_at (i := 11) hh rfl rfl) h11 ?_
    refine x_b 1 (S2 := (59, [some (.ref b), some (.int x1), some (.int x2)], [.int (B14.piles * (B14.room i10)), .ref b], (hput h b (Md.cells b B14)), c, n)) rfl ?_
    obtain ⟨B16, h17, hr⟩ := bd_some hr
    refine x_putf (H := (hput h b (Md.cells b B16))) rfl rfl (h_lt (i := 0) hb (by decide)) (hp_at (i := 0) hh rfl rfl) ⟨(show 22 < 28 by decide), rfl, rfl, nofun⟩ (hp_set (i := 0) hh rfl (by decide) (Md.s_piles rfl h17)) ?_
    refine x_b 2 (S2 := (19, [some (.ref b), some (.int x1), some (.int (x2 + (-1)))], [], (hput h b (Md.cells b B16)), c, n)) rfl ?_
    refine x_fg (Lq.s (Lq.s (Lq.s Lq.nil))) ?_
    exact ka ((x2 + (-1)), B16) (Option.some.inj hr).symm
/-- PebbleProofsModel.layUnits(I)V -/
def F_206 (B : Md) (x1 : Int32) : Option (Md) :=
  (F_181 B x1).bind fun B2 =>
  (some (B2.w_piles 1)).bind fun B3 =>
  (ix 0 93).bind fun i5 =>
  (lw (G_206_19 x1) 200000 (((B3.now i5) - 1), B3)).bind fun B19 =>
  some B19
theorem f_206 {d : Nat} (hd : 3 ≤ d) {scr : ASc} {res : ARe} {c n : Nat} {h : AHp} {b : Nat} (hb : b + 17 ≤ am_SB) (hh : b + 17 ≤ h.length) {B : Md} {x1 : Int32} {o : Md} (hr : F_206 B x1 = some o) (kr : res = (.inl (none), hput h b (Md.cells b o), c, n)) : Ex d am_M206 scr (0, [some (.ref b), some (.int x1), none], [], (hput h b (Md.cells b B)), c, n) res := by
  delta F_206 at hr
  refine x_ldan rfl rfl rfl (h_lt (i := 0) hb (by decide)) ?_
  refine x_b 1 (S2 := (2, [some (.ref b), some (.int x1), none], [.int x1, .ref b], (hput h b (Md.cells b B)), c, n)) rfl ?_
  obtain ⟨B2, h1, hr⟩ := bd_some hr
  refine x_c0 (m_181 hb hh h1) rfl rfl rfl rfl (am_recv_v (h_lt (i := 0) hb (by decide)) (hp_at (i := 0) hh rfl rfl) rfl) (by omega) ?_
  refine x_ldan rfl rfl rfl (h_lt (i := 0) hb (by decide)) ?_
  refine x_b 1 (S2 := (7, [some (.ref b), some (.int x1), none], [.int 1, .ref b], (hput h b (Md.cells b B2)), c, n)) rfl ?_
  obtain ⟨B3, h4, hr⟩ := bd_some hr
  refine x_putf (H := (hput h b (Md.cells b B3))) rfl rfl (h_lt (i := 0) hb (by decide)) (hp_at (i := 0) hh rfl rfl) ⟨(show 22 < 28 by decide), rfl, rfl, nofun⟩ (hp_set (i := 0) hh rfl (by decide) (Md.s_piles rfl h4)) ?_
  refine x_ldan rfl rfl rfl (h_lt (i := 0) hb (by decide)) ?_
  refine x_getf rfl rfl (h_lt (i := 0) hb (by decide)) (hp_at (i := 0) hh rfl rfl) rfl ?_
  refine x_b 1 (S2 := (15, [some (.ref b), some (.int x1), none], [.int 0, .ref (b + 3)], (hput h b (Md.cells b B3)), c, n)) rfl ?_
  obtain ⟨i5, h6, hr⟩ := bd_some hr
  refine x_iald rfl rfl (h_lt (i := 3) hb (by decide)) (hp_at (i := 3) hh rfl rfl) h6 ?_
  refine x_b 3 (S2 := (19, [some (.ref b), some (.int x1), some (.int ((B3.now i5) - 1))], [], (hput h b (Md.cells b B3)), c, n)) rfl ?_
  refine x_fg (Lq.s (Lq.s (Lq.s Lq.nil))) ?_
  obtain ⟨B19, h18, hr⟩ := bd_some hr
  refine x_lw (P := P_206_19 h b c n x1) (Q := fun x => Ex d am_M206 scr (PX_206_19 h b c n x1 x) res) (fun s o h1 ka kx => g_206_19 hd hb hh h1 ka kx) _ (((B3.now i5) - 1), B3) _ h18 ?_
  show Ex d am_M206 scr (68, [none, none, none], [], (hput h b (Md.cells b B19)), c, n) res
  cases hr
  rw [kr]
  exact x_ret rfl rfl rfl
theorem m_206 {h : AHp} {b : Nat} (hb : b + 17 ≤ am_SB) (hh : b + 17 ≤ h.length) {B : Md} {x1 : Int32} {o : Md} (hr : F_206 B x1 = some o) : Rn 4 206 [.ref b, .int x1] (hput h b (Md.cells b B)) (.inl (none), hput h b (Md.cells b o), 0, 0) :=
  x_meth (M := am_M206) rfl (show 2 ≤ 3 by decide) (f_206 (Nat.le_refl _) hb hh hr rfl)
/-- PebbleProofsModel.inPile(II)I -/
def F_205 (B : Md) (x1 : Int32) (x2 : Int32) : Option (Int32) :=
  (ix x2 6).bind fun i1 =>
  if (B.unit i1) = 0 then none else
  if (B.room i1) = 0 then none else
  some ((x1 / (B.unit i1)) - (x1 / (B.unit i1)) / (B.room i1) * (B.room i1))
theorem f_205 {d : Nat} (hd : 1 ≤ d) {scr : ASc} {res : ARe} {c n : Nat} {H : AHp} {b : Nat} {B : Md} {x1 : Int32} {x2 : Int32} (hR : Rg H b (Md.cells b B)) {o : Int32} (hr : F_205 B x1 x2 = some o) (kr : res = (.inl (some (.int o)), H, c, n)) : Ex d am_M205 scr (0, [some (.ref b), some (.int x1), some (.int x2)], [], H, c, n) res := by
  delta F_205 at hr
  refine x_b 1 (S2 := (1, [some (.ref b), some (.int x1), some (.int x2)], [.int x1], H, c, n)) rfl ?_
  refine x_ldan rfl rfl rfl (hR.lt (i := 0) (show 0 < 17 by decide)) ?_
  refine x_getf rfl rfl (hR.lt (i := 0) (show 0 < 17 by decide)) (hR.at (i := 0) rfl) rfl ?_
  refine x_b 1 (S2 := (6, [some (.ref b), some (.int x1), some (.int x2)], [.int x2, .ref (b + 12), .int x1], H, c, n)) rfl ?_
  obtain ⟨i1, h2, hr⟩ := bd_some hr
  refine x_iald rfl rfl (hR.lt (i := 12) (show 12 < 17 by decide)) (hR.at (i := 12) rfl) h2 ?_
  rcases ite_some hr with ⟨h3, hr⟩ | ⟨h3, hr⟩
  · cases hr
  refine x_div rfl rfl h3 ?_
  refine x_ldan rfl rfl rfl (hR.lt (i := 0) (show 0 < 17 by decide)) ?_
  refine x_getf rfl rfl (hR.lt (i := 0) (show 0 < 17 by decide)) (hR.at (i := 0) rfl) rfl ?_
  refine x_b 1 (S2 := (13, [some (.ref b), some (.int x1), some (.int x2)], [.int x2, .ref (b + 11), .int (x1 / (B.unit i1))], H, c, n)) rfl ?_
  refine x_iald rfl rfl (hR.lt (i := 11) (show 11 < 17 by decide)) (hR.at (i := 11) rfl) h2 ?_
  rcases ite_some hr with ⟨h4, hr⟩ | ⟨h4, hr⟩
  · cases hr
  refine x_rem rfl rfl h4 ?_
  cases hr
  rw [kr]
  exact x_ret rfl rfl am_ret_i
theorem m_205 {H : AHp} {b : Nat} {B : Md} {x1 : Int32} {x2 : Int32} (hR : Rg H b (Md.cells b B)) {o : Int32} (hr : F_205 B x1 x2 = some o) : Rn 2 205 [.ref b, .int x1, .int x2] H (.inl (some (.int o)), H, 0, 0) :=
  x_meth (M := am_M205) rfl (show 3 ≤ 3 by decide) (f_205 (Nat.le_refl _) hR hr rfl)
abbrev P_207_2 (h : AHp) (b : Nat) (c n : Nat)  (s : Int32 × (Md)) : ASt := (2, [some (.ref b), some (.int s.1), none, none], [], (hput h b (Md.cells b s.2)), c, n)
abbrev PX_207_2 (h : AHp) (b : Nat) (c n : Nat)  (s : (Md)) : ASt := (21, [some (.ref b), none, none, none], [], (hput h b (Md.cells b s)), c, n)
def G_207_2  (s : Int32 × (Md)) : Option ((Int32 × (Md)) ⊕ ((Md))) := 
  match s with
  | (x1, B) =>
    if 64 < x1 then
      some (.inr B)
    else
      (ix x1 65).bind fun i2 =>
      (some (B.w_firstOf (upd B.firstOf i2 0))).bind fun B4 =>
      some (.inl ((x1 + 1), B4))
theorem g_207_2 {d : Nat} (hd : 2 ≤ d) {scr : ASc} {res : ARe} {c n : Nat} {h : AHp} {b : Nat} (hb : b + 17 ≤ am_SB) (hh : b + 17 ≤ h.length)  {s : Int32 × (Md)} {o : (Int32 × (Md)) ⊕ ((Md))} (hr : G_207_2  s = some o) (ka : ∀ s, o = .inl s → Ex d am_M207 scr (P_207_2 h b c n  s) res) (kx : ∀ s, o = .inr s → Ex d am_M207 scr (PX_207_2 h b c n  s) res) : Ex d am_M207 scr (P_207_2 h b c n  s) res := by
  obtain ⟨x1, B⟩ := s
  delta G_207_2 at hr
  show Ex d am_M207 scr (2, [some (.ref b), some (.int x1), none, none], [], (hput h b (Md.cells b B)), c, n) res
  refine x_b 2 (S2 := (5, [some (.ref b), some (.int x1), none, none], [.int 64, .int x1], (hput h b (Md.cells b B)), c, n)) rfl ?_
  rcases ite_some hr with ⟨h1, hr⟩ | ⟨h1, hr⟩
  · refine x_ct rfl rfl (decide_eq_true h1) ?_
    refine x_fg (Lq.s (Lq.n (Lq.s (Lq.s Lq.nil)))) ?_
    exact kx B (Option.some.inj hr).symm
  · refine x_cf rfl rfl (decide_eq_false h1) ?_
    refine x_ldan rfl rfl rfl (h_lt (i := 0) hb (by decide)) ?_
    refine x_getf rfl rfl (h_lt (i := 0) hb (by decide)) (hp_at (i := 0) hh rfl rfl) rfl ?_
    refine x_b 2 (S2 := (14, [some (.ref b), some (.int x1), none, none], [.int 0, .int x1, .ref (b + 10)], (hput h b (Md.cells b B)), c, n)) rfl ?_
    obtain ⟨i2, h3, hr⟩ := bd_some hr
    obtain ⟨B4, h5, hr⟩ := bd_some hr
    refine x_iast (H := (hput h b (Md.cells b B4))) rfl rfl (h_lt (i := 10) hb (by decide)) (hp_at (i := 10) hh rfl rfl) h3 (hp_set (i := 10) hh rfl (by decide) (Md.s_firstOf h5)) ?_
    refine x_b 2 (S2 := (2, [some (.ref b), some (.int (x1 + 1)), none, none], [], (hput h b (Md.cells b B4)), c, n)) rfl ?_
    refine x_fg (Lq.s (Lq.s (Lq.s (Lq.s Lq.nil)))) ?_
    exact ka ((x1 + 1), B4) (Option.some.inj hr).symm
abbrev P_207_23 (h : AHp) (b : Nat) (c n : Nat)  (s : Int32 × (Md)) : ASt := (23, [some (.ref b), some (.int s.1), none, none], [], (hput h b (Md.cells b s.2)), c, n)
abbrev PX_207_23 (h : AHp) (b : Nat) (c n : Nat)  (s : (Md)) : ASt := (85, [some (.ref b), none, none, none], [], (hput h b (Md.cells b s)), c, n)
abbrev P_207_35 (h : AHp) (b : Nat) (c n : Nat) (B : Md) (x1 : Int32) (s : Int32 × Int32) : ASt := (35, [some (.ref b), some (.int x1), some (.int s.1), some (.int s.2)], [], (hput h b (Md.cells b B)), c, n)
abbrev PX_207_35 (h : AHp) (b : Nat) (c n : Nat) (B : Md) (x1 : Int32) (s : Int32) : ASt := (60, [some (.ref b), some (.int x1), some (.int s), none], [], (hput h b (Md.cells b B)), c, n)
def G_207_35 (B : Md) (x1 : Int32) (s : Int32 × Int32) : Option ((Int32 × Int32) ⊕ (Int32)) := 
  match s with
  | (x2, x3) =>
    (ix 0 93).bind fun i10 =>
    if (B.now i10) ≤ x3 then
      some (.inr x2)
    else
      (F_205 B x1 x3).bind fun v14 =>
      some (.inl ((x2 + v14), (x3 + 1)))
theorem g_207_35 {d : Nat} (hd : 2 ≤ d) {scr : ASc} {res : ARe} {c n : Nat} {h : AHp} {b : Nat} (hb : b + 17 ≤ am_SB) (hh : b + 17 ≤ h.length) {B : Md} {x1 : Int32} {s : Int32 × Int32} {o : (Int32 × Int32) ⊕ (Int32)} (hr : G_207_35 B x1 s = some o) (ka : ∀ s, o = .inl s → Ex d am_M207 scr (P_207_35 h b c n B x1 s) res) (kx : ∀ s, o = .inr s → Ex d am_M207 scr (PX_207_35 h b c n B x1 s) res) : Ex d am_M207 scr (P_207_35 h b c n B x1 s) res := by
  obtain ⟨x2, x3⟩ := s
  delta G_207_35 at hr
  show Ex d am_M207 scr (35, [some (.ref b), some (.int x1), some (.int x2), some (.int x3)], [], (hput h b (Md.cells b B)), c, n) res
  refine x_b 1 (S2 := (36, [some (.ref b), some (.int x1), some (.int x2), some (.int x3)], [.int x3], (hput h b (Md.cells b B)), c, n)) rfl ?_
  refine x_ldan rfl rfl rfl (h_lt (i := 0) hb (by decide)) ?_
  refine x_getf rfl rfl (h_lt (i := 0) hb (by decide)) (hp_at (i := 0) hh rfl rfl) rfl ?_
  refine x_b 1 (S2 := (41, [some (.ref b), some (.int x1), some (.int x2), some (.int x3)], [.int 0, .ref (b + 3), .int x3], (hput h b (Md.cells b B)), c, n)) rfl ?_
  obtain ⟨i10, h11, hr⟩ := bd_some hr
  refine x_iald rfl rfl (h_lt (i := 3) hb (by decide)) (hp_at (i := 3) hh rfl rfl) h11 ?_
  rcases ite_some hr with ⟨h12, hr⟩ | ⟨h12, hr⟩
  · refine x_ct rfl rfl (decide_eq_true h12) ?_
    refine x_fg (Lq.s (Lq.s (Lq.s (Lq.n Lq.nil)))) ?_
    exact kx x2 (Option.some.inj hr).symm
  · refine x_cf rfl rfl (decide_eq_false h12) ?_
    refine x_b 1 (S2 := (46, [some (.ref b), some (.int x1), some (.int x2), some (.int x3)], [.int x2], (hput h b (Md.cells b B)), c, n)) rfl ?_
    refine x_ldan rfl rfl rfl (h_lt (i := 0) hb (by decide)) ?_
    refine x_b 2 (S2 := (49, [some (.ref b), some (.int x1), some (.int x2), some (.int x3)], [.int x3, .int x1, .ref b, .int x2], (hput h b (Md.cells b B)), c, n)) rfl ?_
    obtain ⟨v14, h13, hr⟩ := bd_some hr
    refine x_c0 (m_205 (hp_rg hb hh rfl) h13) rfl rfl rfl rfl (am_recv_v (h_lt (i := 0) hb (by decide)) (hp_at (i := 0) hh rfl rfl) rfl) (by omega) ?_
    refine x_b 4 (S2 := (35, [some (.ref b), some (.int x1), some (.int (x2 + v14)), some (.int (x3 + 1))], [], (hput h b (Md.cells b B)), c, n)) rfl ?_
    refine x_fg (Lq.s (Lq.s (Lq.s (Lq.s Lq.nil)))) ?_
    exact ka ((x2 + v14), (x3 + 1)) (Option.some.inj hr).symm
def G_207_23  (s : Int32 × (Md)) : Option ((Int32 × (Md)) ⊕ ((Md))) := 
  match s with
  | (x1, B) =>
    if B.piles ≤ x1 then
      some (.inr B)
    else
      (lw (G_207_35 B x1) 200000 (0, 0)).bind fun v16 =>
      (ix x1 32768).bind fun i18 =>
      (some (B.w_totals (upd B.totals i18 v16))).bind fun B20 =>
      (ix (v16 + 1) 65).bind fun i22 =>
      (some (B20.w_firstOf (upd B20.firstOf i22 ((B20.firstOf i22) + 1)))).bind fun B24 =>
      some (.inl ((x1 + 1), B24))
theorem g_207_23 {d : Nat} (hd : 2 ≤ d) {scr : ASc} {res : ARe} {c n : Nat} {h : AHp} {b : Nat} (hb : b + 17 ≤ am_SB) (hh : b + 17 ≤ h.length)  {s : Int32 × (Md)} {o : (Int32 × (Md)) ⊕ ((Md))} (hr : G_207_23  s = some o) (ka : ∀ s, o = .inl s → Ex d am_M207 scr (P_207_23 h b c n  s) res) (kx : ∀ s, o = .inr s → Ex d am_M207 scr (PX_207_23 h b c n  s) res) : Ex d am_M207 scr (P_207_23 h b c n  s) res := by
  obtain ⟨x1, B⟩ := s
  delta G_207_23 at hr
  show Ex d am_M207 scr (23, [some (.ref b), some (.int x1), none, none], [], (hput h b (Md.cells b B)), c, n) res
  refine x_b 1 (S2 := (24, [some (.ref b), some (.int x1), none, none], [.int x1], (hput h b (Md.cells b B)), c, n)) rfl ?_
  refine x_ldan rfl rfl rfl (h_lt (i := 0) hb (by decide)) ?_
  refine x_getf rfl rfl (h_lt (i := 0) hb (by decide)) (hp_at (i := 0) hh rfl rfl) rfl ?_
  rcases ite_some hr with ⟨h9, hr⟩ | ⟨h9, hr⟩
  · refine x_ct rfl rfl (decide_eq_true h9) ?_
    refine x_fg (Lq.s (Lq.n (Lq.s (Lq.s Lq.nil)))) ?_
    exact kx B (Option.some.inj hr).symm
  · refine x_cf rfl rfl (decide_eq_false h9) ?_
    refine x_b 4 (S2 := (35, [some (.ref b), some (.int x1), some (.int 0), some (.int 0)], [], (hput h b (Md.cells b B)), c, n)) rfl ?_
    refine x_fg (Lq.s (Lq.s (Lq.s (Lq.s Lq.nil)))) ?_
    obtain ⟨v16, h15, hr⟩ := bd_some hr
    refine x_lw (P := P_207_35 h b c n B x1) (Q := fun x => Ex d am_M207 scr (PX_207_35 h b c n B x1 x) res) (fun s o h1 ka kx => g_207_35 hd hb hh h1 ka kx) _ (0, 0) _ h15 ?_
    show Ex d am_M207 scr (60, [some (.ref b), some (.int x1), some (.int v16), none], [], (hput h b (Md.cells b B)), c, n) res
    refine x_ldan rfl rfl rfl (h_lt (i := 0) hb (by decide)) ?_
    refine x_getf rfl rfl (h_lt (i := 0) hb (by decide)) (hp_at (i := 0) hh rfl rfl) rfl ?_
    refine x_b 2 (S2 := (66, [some (.ref b), some (.int x1), some (.int v16), none], [.int v16, .int x1, .ref (b + 8)], (hput h b (Md.cells b B)), c, n)) rfl ?_
    obtain ⟨i18, h19, hr⟩ := bd_some hr
    obtain ⟨B20, h21, hr⟩ := bd_some hr
    refine x_iast (H := (hput h b (Md.cells b B20))) rfl rfl (h_lt (i := 8) hb (by decide)) (hp_at (i := 8) hh rfl rfl) h19 (hp_set (i := 8) hh rfl (by decide) (Md.s_totals h21)) ?_
    refine x_ldan rfl rfl rfl (h_lt (i := 0) hb (by decide)) ?_
    refine x_getf rfl rfl (h_lt (i := 0) hb (by decide)) (hp_at (i := 0) hh rfl rfl) rfl ?_
    refine x_b 4 (S2 := (75, [some (.ref b), some (.int x1), some (.int v16), none], [.int (v16 + 1), .ref (b + 10), .int (v16 + 1), .ref (b + 10)], (hput h b (Md.cells b B20)), c, n)) rfl ?_
    obtain ⟨i22, h23, hr⟩ := bd_some hr
    refine x_iald rfl rfl (h_lt (i := 10) hb (by decide)) (hp_at (i := 10) hh rfl rfl) h23 ?_
    refine x_b 2 (S2 := (78, [some (.ref b), some (.int x1), some (.int v16), none], [.int ((B20.firstOf i22) + 1), .int (v16 + 1), .ref (b + 10)], (hput h b (Md.cells b B20)), c, n)) rfl ?_
    obtain ⟨B24, h25, hr⟩ := bd_some hr
    refine x_iast (H := (hput h b (Md.cells b B24))) rfl rfl (h_lt (i := 10) hb (by decide)) (hp_at (i := 10) hh rfl rfl) h23 (hp_set (i := 10) hh rfl (by decide) (Md.s_firstOf h25)) ?_
    refine x_b 2 (S2 := (23, [some (.ref b), some (.int (x1 + 1)), some (.int v16), none], [], (hput h b (Md.cells b B24)), c, n)) rfl ?_
    refine x_fg (Lq.s (Lq.s (Lq.n (Lq.s Lq.nil)))) ?_
    exact ka ((x1 + 1), B24) (Option.some.inj hr).symm
abbrev P_207_87 (h : AHp) (b : Nat) (c n : Nat)  (s : Int32 × (Md)) : ASt := (87, [some (.ref b), some (.int s.1), none, none], [], (hput h b (Md.cells b s.2)), c, n)
abbrev PX_207_87 (h : AHp) (b : Nat) (c n : Nat)  (s : (Md)) : ASt := (116, [some (.ref b), none, none, none], [], (hput h b (Md.cells b s)), c, n)
def G_207_87  (s : Int32 × (Md)) : Option ((Int32 × (Md)) ⊕ ((Md))) := 
  match s with
  | (x1, B) =>
    if 64 < x1 then
      some (.inr B)
    else
      (ix x1 65).bind fun i30 =>
      (ix (x1 - 1) 65).bind fun i32 =>
      (some (B.w_firstOf (upd B.firstOf i30 ((B.firstOf i30) + (B.firstOf i32))))).bind fun B34 =>
      some (.inl ((x1 + 1), B34))
theorem g_207_87 {d : Nat} (hd : 2 ≤ d) {scr : ASc} {res : ARe} {c n : Nat} {h : AHp} {b : Nat} (hb : b + 17 ≤ am_SB) (hh : b + 17 ≤ h.length)  {s : Int32 × (Md)} {o : (Int32 × (Md)) ⊕ ((Md))} (hr : G_207_87  s = some o) (ka : ∀ s, o = .inl s → Ex d am_M207 scr (P_207_87 h b c n  s) res) (kx : ∀ s, o = .inr s → Ex d am_M207 scr (PX_207_87 h b c n  s) res) : Ex d am_M207 scr (P_207_87 h b c n  s) res := by
  obtain ⟨x1, B⟩ := s
  delta G_207_87 at hr
  show Ex d am_M207 scr (87, [some (.ref b), some (.int x1), none, none], [], (hput h b (Md.cells b B)), c, n) res
  refine x_b 2 (S2 := (90, [some (.ref b), some (.int x1), none, none], [.int 64, .int x1], (hput h b (Md.cells b B)), c, n)) rfl ?_
  rcases ite_some hr with ⟨h29, hr⟩ | ⟨h29, hr⟩
  · refine x_ct rfl rfl (decide_eq_true h29) ?_
    refine x_fg (Lq.s (Lq.n (Lq.s (Lq.s Lq.nil)))) ?_
    exact kx B (Option.some.inj hr).symm
  · refine x_cf rfl rfl (decide_eq_false h29) ?_
    refine x_ldan rfl rfl rfl (h_lt (i := 0) hb (by decide)) ?_
    refine x_getf rfl rfl (h_lt (i := 0) hb (by decide)) (hp_at (i := 0) hh rfl rfl) rfl ?_
    refine x_b 2 (S2 := (99, [some (.ref b), some (.int x1), none, none], [.int x1, .ref (b + 10), .int x1, .ref (b + 10)], (hput h b (Md.cells b B)), c, n)) rfl ?_
    obtain ⟨i30, h31, hr⟩ := bd_some hr
    refine x_iald rfl rfl (h_lt (i := 10) hb (by decide)) (hp_at (i := 10) hh rfl rfl) h31 ?_
    refine x_ldan rfl rfl rfl (h_lt (i := 0) hb (by decide)) ?_
    refine x_getf rfl rfl (h_lt (i := 0) hb (by decide)) (hp_at (i := 0) hh rfl rfl) rfl ?_
    refine x_b 3 (S2 := (107, [some (.ref b), some (.int x1), none, none], [.int (x1 - 1), .ref (b + 10), .int (B.firstOf i30), .int x1, .ref (b + 10)], (hput h b (Md.cells b B)), c, n)) rfl ?_
    obtain ⟨i32, h33, hr⟩ := bd_some hr
    refine x_iald rfl rfl (h_lt (i := 10) hb (by decide)) (hp_at (i := 10) hh rfl rfl) h33 ?_
    refine x_b 1 (S2 := (109, [some (.ref b), some (.int x1), none, none], [.int ((B.firstOf i30) + (B.firstOf i32)), .int x1, .ref (b + 10)], (hput h b (Md.cells b B)), c, n)) rfl ?_
    obtain ⟨B34, h35, hr⟩ := bd_some hr
    refine x_iast (H := (hput h b (Md.cells b B34))) rfl rfl (h_lt (i := 10) hb (by decide)) (hp_at (i := 10) hh rfl rfl) h31 (hp_set (i := 10) hh rfl (by decide) (Md.s_firstOf h35)) ?_
    refine x_b 2 (S2 := (87, [some (.ref b), some (.int (x1 + 1)), none, none], [], (hput h b (Md.cells b B34)), c, n)) rfl ?_
    refine x_fg (Lq.s (Lq.s (Lq.s (Lq.s Lq.nil)))) ?_
    exact ka ((x1 + 1), B34) (Option.some.inj hr).symm
abbrev P_207_118 (h : AHp) (b : Nat) (c n : Nat)  (s : Int32 × (Md)) : ASt := (118, [some (.ref b), some (.int s.1), none, none], [], (hput h b (Md.cells b s.2)), c, n)
abbrev PX_207_118 (h : AHp) (b : Nat) (c n : Nat)  (s : (Md)) : ASt := (164, [none, none, none, none], [], (hput h b (Md.cells b s)), c, n)
def G_207_118  (s : Int32 × (Md)) : Option ((Int32 × (Md)) ⊕ ((Md))) := 
  match s with
  | (x1, B) =>
    if B.piles ≤ x1 then
      some (.inr B)
    else
      (ix x1 32768).bind fun i40 =>
      (ix (B.totals i40) 65).bind fun i42 =>
      (ix (B.firstOf i42) 32768).bind fun i44 =>
      (some (B.w_byTotal (upd B.byTotal i44 x1))).bind fun B46 =>
      (ix (B46.totals i40) 65).bind fun i48 =>
      (some (B46.w_firstOf (upd B46.firstOf i48 ((B46.firstOf i48) + 1)))).bind fun B50 =>
      some (.inl ((x1 + 1), B50))
theorem g_207_118 {d : Nat} (hd : 2 ≤ d) {scr : ASc} {res : ARe} {c n : Nat} {h : AHp} {b : Nat} (hb : b + 17 ≤ am_SB) (hh : b + 17 ≤ h.length)  {s : Int32 × (Md)} {o : (Int32 × (Md)) ⊕ ((Md))} (hr : G_207_118  s = some o) (ka : ∀ s, o = .inl s → Ex d am_M207 scr (P_207_118 h b c n  s) res) (kx : ∀ s, o = .inr s → Ex d am_M207 scr (PX_207_118 h b c n  s) res) : Ex d am_M207 scr (P_207_118 h b c n  s) res := by
  obtain ⟨x1, B⟩ := s
  delta G_207_118 at hr
  show Ex d am_M207 scr (118, [some (.ref b), some (.int x1), none, none], [], (hput h b (Md.cells b B)), c, n) res
  refine x_b 1 (S2 := (119, [some (.ref b), some (.int x1), none, none], [.int x1], (hput h b (Md.cells b B)), c, n)) rfl ?_
  refine x_ldan rfl rfl rfl (h_lt (i := 0) hb (by decide)) ?_
  refine x_getf rfl rfl (h_lt (i := 0) hb (by decide)) (hp_at (i := 0) hh rfl rfl) rfl ?_
  rcases ite_some hr with ⟨h39, hr⟩ | ⟨h39, hr⟩
  · refine x_ct rfl rfl (decide_eq_true h39) ?_
    refine x_fg (Lq.n (Lq.n (Lq.s (Lq.s Lq.nil)))) ?_
    exact kx B (Option.some.inj hr).symm
  · refine x_cf rfl rfl (decide_eq_false h39) ?_
    refine x_ldan rfl rfl rfl (h_lt (i := 0) hb (by decide)) ?_
    refine x_getf rfl rfl (h_lt (i := 0) hb (by decide)) (hp_at (i := 0) hh rfl rfl) rfl ?_
    refine x_ldan rfl rfl rfl (h_lt (i := 0) hb (by decide)) ?_
    refine x_getf rfl rfl (h_lt (i := 0) hb (by decide)) (hp_at (i := 0) hh rfl rfl) rfl ?_
    refine x_ldan rfl rfl rfl (h_lt (i := 0) hb (by decide)) ?_
    refine x_getf rfl rfl (h_lt (i := 0) hb (by decide)) (hp_at (i := 0) hh rfl rfl) rfl ?_
    refine x_b 1 (S2 := (139, [some (.ref b), some (.int x1), none, none], [.int x1, .ref (b + 8), .ref (b + 10), .ref (b + 9)], (hput h b (Md.cells b B)), c, n)) rfl ?_
    obtain ⟨i40, h41, hr⟩ := bd_some hr
    refine x_iald rfl rfl (h_lt (i := 8) hb (by decide)) (hp_at (i := 8) hh rfl rfl) h41 ?_
    obtain ⟨i42, h43, hr⟩ := bd_some hr
    refine x_iald rfl rfl (h_lt (i := 10) hb (by decide)) (hp_at (i := 10) hh rfl rfl) h43 ?_
    refine x_b 1 (S2 := (142, [some (.ref b), some (.int x1), none, none], [.int x1, .int (B.firstOf i42), .ref (b + 9)], (hput h b (Md.cells b B)), c, n)) rfl ?_
    obtain ⟨i44, h45, hr⟩ := bd_some hr
    obtain ⟨B46, h47, hr⟩ := bd_some hr
    refine x_iast (H := (hput h b (Md.cells b B46))) rfl rfl (h_lt (i := 9) hb (by decide)) (hp_at (i := 9) hh rfl rfl) h45 (hp_set (i := 9) hh rfl (by decide) (Md.s_byTotal h47)) ?_
    refine x_ldan rfl rfl rfl (h_lt (i := 0) hb (by decide)) ?_
    refine x_getf rfl rfl (h_lt (i := 0) hb (by decide)) (hp_at (i := 0) hh rfl rfl) rfl ?_
    refine x_ldan rfl rfl rfl (h_lt (i := 0) hb (by decide)) ?_
    refine x_getf rfl rfl (h_lt (i := 0) hb (by decide)) (hp_at (i := 0) hh rfl rfl) rfl ?_
    refine x_b 1 (S2 := (152, [some (.ref b), some (.int x1), none, none], [.int x1, .ref (b + 8), .ref (b + 10)], (hput h b (Md.cells b B46)), c, n)) rfl ?_
    refine x_iald rfl rfl (h_lt (i := 8) hb (by decide)) (hp_at (i := 8) hh rfl rfl) h41 ?_
    refine x_b 1 (S2 := (154, [some (.ref b), some (.int x1), none, none], [.int (B46.totals i40), .ref (b + 10), .int (B46.totals i40), .ref (b + 10)], (hput h b (Md.cells b B46)), c, n)) rfl ?_
    obtain ⟨i48, h49, hr⟩ := bd_some hr
    refine x_iald rfl rfl (h_lt (i := 10) hb (by decide)) (hp_at (i := 10) hh rfl rfl) h49 ?_
    refine x_b 2 (S2 := (157, [some (.ref b), some (.int x1), none, none], [.int ((B46.firstOf i48) + 1), .int (B46.totals i40), .ref (b + 10)], (hput h b (Md.cells b B46)), c, n)) rfl ?_
    obtain ⟨B50, h51, hr⟩ := bd_some hr
    refine x_iast (H := (hput h b (Md.cells b B50))) rfl rfl (h_lt (i := 10) hb (by decide)) (hp_at (i := 10) hh rfl rfl) h49 (hp_set (i := 10) hh rfl (by decide) (Md.s_firstOf h51)) ?_
    refine x_b 2 (S2 := (118, [some (.ref b), some (.int (x1 + 1)), none, none], [], (hput h b (Md.cells b B50)), c, n)) rfl ?_
    refine x_fg (Lq.s (Lq.s (Lq.s (Lq.s Lq.nil)))) ?_
    exact ka ((x1 + 1), B50) (Option.some.inj hr).symm
/-- PebbleProofsModel.layTotals()V -/
def F_207 (B : Md) : Option (Md) :=
  (lw (G_207_2 ) 200000 (0, B)).bind fun B7 =>
  (lw (G_207_23 ) 200000 (0, B7)).bind fun B27 =>
  (lw (G_207_87 ) 200000 (1, B27)).bind fun B37 =>
  (lw (G_207_118 ) 200000 (0, B37)).bind fun B53 =>
  some B53
theorem f_207 {d : Nat} (hd : 2 ≤ d) {scr : ASc} {res : ARe} {c n : Nat} {h : AHp} {b : Nat} (hb : b + 17 ≤ am_SB) (hh : b + 17 ≤ h.length) {B : Md} {o : Md} (hr : F_207 B = some o) (kr : res = (.inl (none), hput h b (Md.cells b o), c, n)) : Ex d am_M207 scr (0, [some (.ref b), none, none, none], [], (hput h b (Md.cells b B)), c, n) res := by
  delta F_207 at hr
  refine x_b 2 (S2 := (2, [some (.ref b), some (.int 0), none, none], [], (hput h b (Md.cells b B)), c, n)) rfl ?_
  refine x_fg (Lq.s (Lq.s (Lq.s (Lq.s Lq.nil)))) ?_
  obtain ⟨B7, h6, hr⟩ := bd_some hr
  refine x_lw (P := P_207_2 h b c n ) (Q := fun x => Ex d am_M207 scr (PX_207_2 h b c n  x) res) (fun s o h1 ka kx => g_207_2 hd hb hh h1 ka kx) _ (0, B) _ h6 ?_
  show Ex d am_M207 scr (21, [some (.ref b), none, none, none], [], (hput h b (Md.cells b B7)), c, n) res
  refine x_b 2 (S2 := (23, [some (.ref b), some (.int 0), none, none], [], (hput h b (Md.cells b B7)), c, n)) rfl ?_
  refine x_fg (Lq.s (Lq.s (Lq.s (Lq.s Lq.nil)))) ?_
  obtain ⟨B27, h26, hr⟩ := bd_some hr
  refine x_lw (P := P_207_23 h b c n ) (Q := fun x => Ex d am_M207 scr (PX_207_23 h b c n  x) res) (fun s o h1 ka kx => g_207_23 hd hb hh h1 ka kx) _ (0, B7) _ h26 ?_
  show Ex d am_M207 scr (85, [some (.ref b), none, none, none], [], (hput h b (Md.cells b B27)), c, n) res
  refine x_b 2 (S2 := (87, [some (.ref b), some (.int 1), none, none], [], (hput h b (Md.cells b B27)), c, n)) rfl ?_
  refine x_fg (Lq.s (Lq.s (Lq.s (Lq.s Lq.nil)))) ?_
  obtain ⟨B37, h36, hr⟩ := bd_some hr
  refine x_lw (P := P_207_87 h b c n ) (Q := fun x => Ex d am_M207 scr (PX_207_87 h b c n  x) res) (fun s o h1 ka kx => g_207_87 hd hb hh h1 ka kx) _ (1, B27) _ h36 ?_
  show Ex d am_M207 scr (116, [some (.ref b), none, none, none], [], (hput h b (Md.cells b B37)), c, n) res
  refine x_b 2 (S2 := (118, [some (.ref b), some (.int 0), none, none], [], (hput h b (Md.cells b B37)), c, n)) rfl ?_
  refine x_fg (Lq.s (Lq.s (Lq.s (Lq.s Lq.nil)))) ?_
  obtain ⟨B53, h52, hr⟩ := bd_some hr
  refine x_lw (P := P_207_118 h b c n ) (Q := fun x => Ex d am_M207 scr (PX_207_118 h b c n  x) res) (fun s o h1 ka kx => g_207_118 hd hb hh h1 ka kx) _ (0, B37) _ h52 ?_
  show Ex d am_M207 scr (164, [none, none, none, none], [], (hput h b (Md.cells b B53)), c, n) res
  cases hr
  rw [kr]
  exact x_ret rfl rfl rfl
theorem m_207 {h : AHp} {b : Nat} (hb : b + 17 ≤ am_SB) (hh : b + 17 ≤ h.length) {B : Md} {o : Md} (hr : F_207 B = some o) : Rn 3 207 [.ref b] (hput h b (Md.cells b B)) (.inl (none), hput h b (Md.cells b o), 0, 0) :=
  x_meth (M := am_M207) rfl (show 1 ≤ 4 by decide) (f_207 (Nat.le_refl _) hb hh hr rfl)
abbrev P_208_2 (H : AHp) (b : Nat) (c n : Nat) (B : Md) (x1 : Int32) (s : Int32) : ASt := (2, [some (.ref b), some (.int x1), some (.int s), none], [], H, c, n)
abbrev PX_208_2 (H : AHp) (b : Nat) (c n : Nat) (B : Md) (x1 : Int32) (s : Unit) : ASt := (105, [none, none, none, none], [], H, c, n)
abbrev P_208_27 (H : AHp) (b : Nat) (c n : Nat) (B : Md) (x1 : Int32) (x2 : Int32) (s : Int32) : ASt := (27, [some (.ref b), some (.int x1), some (.int x2), some (.int s)], [], H, c, n)
abbrev PX_208_27 (H : AHp) (b : Nat) (c n : Nat) (B : Md) (x1 : Int32) (x2 : Int32) (s : Unit) : ASt := (99, [some (.ref b), some (.int x1), some (.int x2), none], [], H, c, n)
def J_208_27_j91 (B : Md) (x1 : Int32) (x2 : Int32) : Option ((Int32) ⊕ (Unit) ⊕ (Int32)) :=
  some (.inr (.inr 1))
theorem j_208_27_j91 {d : Nat} (hd : 3 ≤ d) {scr : ASc} {res : ARe} {c n : Nat} {H : AHp} {b : Nat} {B : Md} {x1 : Int32} {x2 : Int32} (hR : Rg H b (Md.cells b B)) {o : (Int32) ⊕ (Unit) ⊕ (Int32)} (hr : J_208_27_j91 B x1 x2 = some o) (ka : ∀ s, o = .inl s → Ex d am_M208 scr (P_208_27 H b c n B x1 x2 s) res) (kx : ∀ s, o = .inr (.inl s) → Ex d am_M208 scr (PX_208_27 H b c n B x1 x2 s) res) (kr : ∀ r, o = .inr (.inr r) → res = (.inl (some (.int r)), H, c, n)) : Ex d am_M208 scr (91, [none, none, none, none], [], H, c, n) res := by
  delta J_208_27_j91 at hr
  refine x_b 1 (S2 := (92, [none, none, none, none], [.int 1], H, c, n)) rfl ?_
  rw [kr _ (Option.some.inj hr).symm]
  exact x_ret rfl rfl (am_ret_z (by decide))
def J_208_27_j93 (B : Md) (x1 : Int32) (x2 : Int32) (x3 : Int32) : Option ((Int32) ⊕ (Unit) ⊕ (Int32)) :=
  some (.inl (x3 + 1))
theorem j_208_27_j93 {d : Nat} (hd : 3 ≤ d) {scr : ASc} {res : ARe} {c n : Nat} {H : AHp} {b : Nat} {B : Md} {x1 : Int32} {x2 : Int32} {x3 : Int32} (hR : Rg H b (Md.cells b B)) {o : (Int32) ⊕ (Unit) ⊕ (Int32)} (hr : J_208_27_j93 B x1 x2 x3 = some o) (ka : ∀ s, o = .inl s → Ex d am_M208 scr (P_208_27 H b c n B x1 x2 s) res) (kx : ∀ s, o = .inr (.inl s) → Ex d am_M208 scr (PX_208_27 H b c n B x1 x2 s) res) (kr : ∀ r, o = .inr (.inr r) → res = (.inl (some (.int r)), H, c, n)) : Ex d am_M208 scr (93, [some (.ref b), some (.int x1), some (.int x2), some (.int x3)], [], H, c, n) res := by
  delta J_208_27_j93 at hr
  refine x_b 2 (S2 := (27, [some (.ref b), some (.int x1), some (.int x2), some (.int (x3 + 1))], [], H, c, n)) rfl ?_
  refine x_fg (Lq.s (Lq.s (Lq.s (Lq.s Lq.nil)))) ?_
  exact ka (x3 + 1) (Option.some.inj hr).symm
def G_208_27 (B : Md) (x1 : Int32) (x2 : Int32) (s : Int32) : Option ((Int32) ⊕ (Unit) ⊕ (Int32)) := 
  match s with
  | x3 =>
    (ix 0 93).bind fun i7 =>
    if (B.now i7) ≤ x3 then
      some (.inr (.inl ()))
    else
      (F_175 B x2 x3).bind fun v11 =>
      if ¬ v11 = 0 then
        (F_205 B x1 x3).bind fun v14 =>
        (ix x3 6).bind fun i15 =>
        if (v14 + 1) = (B.room i15) then
          J_208_27_j91 B x1 x2
        else
          (ix x2 6).bind fun i19 =>
          (ix ((x1 - (2 * (B.unit i19))) + (B.unit i15)) 32768).bind fun i21 =>
          if (B.isReached i21) = 0 then
            J_208_27_j93 B x1 x2 x3
          else
            J_208_27_j91 B x1 x2
      else
        J_208_27_j93 B x1 x2 x3
theorem g_208_27 {d : Nat} (hd : 3 ≤ d) {scr : ASc} {res : ARe} {c n : Nat} {H : AHp} {b : Nat} {B : Md} {x1 : Int32} {x2 : Int32} (hR : Rg H b (Md.cells b B)) {s : Int32} {o : (Int32) ⊕ (Unit) ⊕ (Int32)} (hr : G_208_27 B x1 x2 s = some o) (ka : ∀ s, o = .inl s → Ex d am_M208 scr (P_208_27 H b c n B x1 x2 s) res) (kx : ∀ s, o = .inr (.inl s) → Ex d am_M208 scr (PX_208_27 H b c n B x1 x2 s) res) (kr : ∀ r, o = .inr (.inr r) → res = (.inl (some (.int r)), H, c, n)) : Ex d am_M208 scr (P_208_27 H b c n B x1 x2 s) res := by
  delta G_208_27 at hr
  show Ex d am_M208 scr (27, [some (.ref b), some (.int x1), some (.int x2), some (.int s)], [], H, c, n) res
  refine x_b 1 (S2 := (28, [some (.ref b), some (.int x1), some (.int x2), some (.int s)], [.int s], H, c, n)) rfl ?_
  refine x_ldan rfl rfl rfl (hR.lt (i := 0) (show 0 < 17 by decide)) ?_
  refine x_getf rfl rfl (hR.lt (i := 0) (show 0 < 17 by decide)) (hR.at (i := 0) rfl) rfl ?_
  refine x_b 1 (S2 := (33, [some (.ref b), some (.int x1), some (.int x2), some (.int s)], [.int 0, .ref (b + 3), .int s], H, c, n)) rfl ?_
  obtain ⟨i7, h8, hr⟩ := bd_some hr
  refine x_iald rfl rfl (hR.lt (i := 3) (show 3 < 17 by decide)) (hR.at (i := 3) rfl) h8 ?_
  rcases ite_some hr with ⟨h9, hr⟩ | ⟨h9, hr⟩
  · refine x_ct rfl rfl (decide_eq_true h9) ?_
    refine x_fg (Lq.s (Lq.s (Lq.s (Lq.n Lq.nil)))) ?_
    exact kx () (Option.some.inj hr).symm
  · refine x_cf rfl rfl (decide_eq_false h9) ?_
    refine x_ldan rfl rfl rfl (hR.lt (i := 0) (show 0 < 17 by decide)) ?_
    refine x_b 2 (S2 := (40, [some (.ref b), some (.int x1), some (.int x2), some (.int s)], [.int s, .int x2, .ref b], H, c, n)) rfl ?_
    obtain ⟨v11, h10, hr⟩ := bd_some hr
    refine x_c0 (m_175 hR h10) rfl rfl rfl rfl (am_recv_v (hR.lt (i := 0) (show 0 < 17 by decide)) (hR.at (i := 0) rfl) rfl) (by omega) ?_
    rcases ite_some hr with ⟨h12, hr⟩ | ⟨h12, hr⟩
    · refine x_zt rfl rfl (decide_eq_true h12) ?_
      refine x_ldan rfl rfl rfl (hR.lt (i := 0) (show 0 < 17 by decide)) ?_
      refine x_b 2 (S2 := (52, [some (.ref b), some (.int x1), some (.int x2), some (.int s)], [.int s, .int x1, .ref b], H, c, n)) rfl ?_
      obtain ⟨v14, h13, hr⟩ := bd_some hr
      refine x_c0 (m_205 hR h13) rfl rfl rfl rfl (am_recv_v (hR.lt (i := 0) (show 0 < 17 by decide)) (hR.at (i := 0) rfl) rfl) (by omega) ?_
      refine x_b 2 (S2 := (57, [some (.ref b), some (.int x1), some (.int x2), some (.int s)], [.int (v14 + 1)], H, c, n)) rfl ?_
      refine x_ldan rfl rfl rfl (hR.lt (i := 0) (show 0 < 17 by decide)) ?_
      refine x_getf rfl rfl (hR.lt (i := 0) (show 0 < 17 by decide)) (hR.at (i := 0) rfl) rfl ?_
      refine x_b 1 (S2 := (62, [some (.ref b), some (.int x1), some (.int x2), some (.int s)], [.int s, .ref (b + 11), .int (v14 + 1)], H, c, n)) rfl ?_
      obtain ⟨i15, h16, hr⟩ := bd_some hr
      refine x_iald rfl rfl (hR.lt (i := 11) (show 11 < 17 by decide)) (hR.at (i := 11) rfl) h16 ?_
      rcases ite_some hr with ⟨h17, hr⟩ | ⟨h17, hr⟩
      · refine x_ct rfl rfl (decide_eq_true h17) ?_
        refine x_fg (Lq.n (Lq.n (Lq.n (Lq.n Lq.nil)))) ?_
        exact j_208_27_j91 hd hR hr ka kx kr
      · refine x_cf rfl rfl (decide_eq_false h17) ?_
        refine x_ldan rfl rfl rfl (hR.lt (i := 0) (show 0 < 17 by decide)) ?_
        refine x_getf rfl rfl (hR.lt (i := 0) (show 0 < 17 by decide)) (hR.at (i := 0) rfl) rfl ?_
        refine x_b 2 (S2 := (72, [some (.ref b), some (.int x1), some (.int x2), some (.int s)], [.int 2, .int x1, .ref (b + 7)], H, c, n)) rfl ?_
        refine x_ldan rfl rfl rfl (hR.lt (i := 0) (show 0 < 17 by decide)) ?_
        refine x_getf rfl rfl (hR.lt (i := 0) (show 0 < 17 by decide)) (hR.at (i := 0) rfl) rfl ?_
        refine x_b 1 (S2 := (77, [some (.ref b), some (.int x1), some (.int x2), some (.int s)], [.int x2, .ref (b + 12), .int 2, .int x1, .ref (b + 7)], H, c, n)) rfl ?_
        obtain ⟨i19, h20, hr⟩ := bd_some hr
        refine x_iald rfl rfl (hR.lt (i := 12) (show 12 < 17 by decide)) (hR.at (i := 12) rfl) h20 ?_
        refine x_b 2 (S2 := (80, [some (.ref b), some (.int x1), some (.int x2), some (.int s)], [.int (x1 - (2 * (B.unit i19))), .ref (b + 7)], H, c, n)) rfl ?_
        refine x_ldan rfl rfl rfl (hR.lt (i := 0) (show 0 < 17 by decide)) ?_
        refine x_getf rfl rfl (hR.lt (i := 0) (show 0 < 17 by decide)) (hR.at (i := 0) rfl) rfl ?_
        refine x_b 1 (S2 := (85, [some (.ref b), some (.int x1), some (.int x2), some (.int s)], [.int s, .ref (b + 12), .int (x1 - (2 * (B.unit i19))), .ref (b + 7)], H, c, n)) rfl ?_
        refine x_iald rfl rfl (hR.lt (i := 12) (show 12 < 17 by decide)) (hR.at (i := 12) rfl) h16 ?_
        refine x_b 1 (S2 := (87, [some (.ref b), some (.int x1), some (.int x2), some (.int s)], [.int ((x1 - (2 * (B.unit i19))) + (B.unit i15)), .ref (b + 7)], H, c, n)) rfl ?_
        obtain ⟨i21, h22, hr⟩ := bd_some hr
        refine x_bald rfl rfl (hR.lt (i := 7) (show 7 < 17 by decide)) (hR.at (i := 7) rfl) h22 ?_
        rcases ite_some hr with ⟨h23, hr⟩ | ⟨h23, hr⟩
        · refine x_zt rfl rfl (decide_eq_true h23) ?_
          refine x_fg (Lq.s (Lq.s (Lq.s (Lq.s Lq.nil)))) ?_
          exact j_208_27_j93 hd hR hr ka kx kr
        · refine x_zf rfl rfl (decide_eq_false h23) ?_
          refine x_fg (Lq.n (Lq.n (Lq.n (Lq.n Lq.nil)))) ?_
          exact j_208_27_j91 hd hR hr ka kx kr
    · refine x_zf rfl rfl (decide_eq_false h12) ?_
      refine x_b 1 (S2 := (93, [some (.ref b), some (.int x1), some (.int x2), some (.int s)], [], H, c, n)) rfl ?_
      refine x_fg (Lq.s (Lq.s (Lq.s (Lq.s Lq.nil)))) ?_
      exact j_208_27_j93 hd hR hr ka kx kr
def J_208_2_j99 (B : Md) (x1 : Int32) (x2 : Int32) : Option ((Int32) ⊕ (Unit) ⊕ (Int32)) :=
  some (.inl (x2 + 1))
theorem j_208_2_j99 {d : Nat} (hd : 3 ≤ d) {scr : ASc} {res : ARe} {c n : Nat} {H : AHp} {b : Nat} {B : Md} {x1 : Int32} {x2 : Int32} (hR : Rg H b (Md.cells b B)) {o : (Int32) ⊕ (Unit) ⊕ (Int32)} (hr : J_208_2_j99 B x1 x2 = some o) (ka : ∀ s, o = .inl s → Ex d am_M208 scr (P_208_2 H b c n B x1 s) res) (kx : ∀ s, o = .inr (.inl s) → Ex d am_M208 scr (PX_208_2 H b c n B x1 s) res) (kr : ∀ r, o = .inr (.inr r) → res = (.inl (some (.int r)), H, c, n)) : Ex d am_M208 scr (99, [some (.ref b), some (.int x1), some (.int x2), none], [], H, c, n) res := by
  delta J_208_2_j99 at hr
  refine x_b 2 (S2 := (2, [some (.ref b), some (.int x1), some (.int (x2 + 1)), none], [], H, c, n)) rfl ?_
  refine x_fg (Lq.s (Lq.s (Lq.s (Lq.s Lq.nil)))) ?_
  exact ka (x2 + 1) (Option.some.inj hr).symm
def G_208_2 (B : Md) (x1 : Int32) (s : Int32) : Option ((Int32) ⊕ (Unit) ⊕ (Int32)) := 
  match s with
  | x2 =>
    (ix 0 93).bind fun i1 =>
    if (B.now i1) ≤ x2 then
      some (.inr (.inl ()))
    else
      (F_205 B x1 x2).bind fun v5 =>
      if 2 ≤ v5 then
        (lw (G_208_27 B x1 x2) 200000 0).bind fun r =>
          match r with
          | .inr r26 => some (.inr (.inr r26))
          | .inl _ =>
            J_208_2_j99 B x1 x2
      else
        J_208_2_j99 B x1 x2
theorem g_208_2 {d : Nat} (hd : 3 ≤ d) {scr : ASc} {res : ARe} {c n : Nat} {H : AHp} {b : Nat} {B : Md} {x1 : Int32} (hR : Rg H b (Md.cells b B)) {s : Int32} {o : (Int32) ⊕ (Unit) ⊕ (Int32)} (hr : G_208_2 B x1 s = some o) (ka : ∀ s, o = .inl s → Ex d am_M208 scr (P_208_2 H b c n B x1 s) res) (kx : ∀ s, o = .inr (.inl s) → Ex d am_M208 scr (PX_208_2 H b c n B x1 s) res) (kr : ∀ r, o = .inr (.inr r) → res = (.inl (some (.int r)), H, c, n)) : Ex d am_M208 scr (P_208_2 H b c n B x1 s) res := by
  delta G_208_2 at hr
  show Ex d am_M208 scr (2, [some (.ref b), some (.int x1), some (.int s), none], [], H, c, n) res
  refine x_b 1 (S2 := (3, [some (.ref b), some (.int x1), some (.int s), none], [.int s], H, c, n)) rfl ?_
  refine x_ldan rfl rfl rfl (hR.lt (i := 0) (show 0 < 17 by decide)) ?_
  refine x_getf rfl rfl (hR.lt (i := 0) (show 0 < 17 by decide)) (hR.at (i := 0) rfl) rfl ?_
  refine x_b 1 (S2 := (8, [some (.ref b), some (.int x1), some (.int s), none], [.int 0, .ref (b + 3), .int s], H, c, n)) rfl ?_
  obtain ⟨i1, h2, hr⟩ := bd_some hr
  refine x_iald rfl rfl (hR.lt (i := 3) (show 3 < 17 by decide)) (hR.at (i := 3) rfl) h2 ?_
  rcases ite_some hr with ⟨h3, hr⟩ | ⟨h3, hr⟩
  · refine x_ct rfl rfl (decide_eq_true h3) ?_
    refine x_fg (Lq.n (Lq.n (Lq.n (Lq.s Lq.nil)))) ?_
    exact kx () (Option.some.inj hr).symm
  · refine x_cf rfl rfl (decide_eq_false h3) ?_
    refine x_ldan rfl rfl rfl (hR.lt (i := 0) (show 0 < 17 by decide)) ?_
    refine x_b 2 (S2 := (15, [some (.ref b), some (.int x1), some (.int s), none], [.int s, .int x1, .ref b], H, c, n)) rfl ?_
    obtain ⟨v5, h4, hr⟩ := bd_some hr
    refine x_c0 (m_205 hR h4) rfl rfl rfl rfl (am_recv_v (hR.lt (i := 0) (show 0 < 17 by decide)) (hR.at (i := 0) rfl) rfl) (by omega) ?_
    refine x_b 1 (S2 := (19, [some (.ref b), some (.int x1), some (.int s), none], [.int 2, .int v5], H, c, n)) rfl ?_
    rcases ite_some hr with ⟨h6, hr⟩ | ⟨h6, hr⟩
    · refine x_ct rfl rfl (decide_eq_true h6) ?_
      refine x_b 2 (S2 := (27, [some (.ref b), some (.int x1), some (.int s), some (.int 0)], [], H, c, n)) rfl ?_
      refine x_fg (Lq.s (Lq.s (Lq.s (Lq.s Lq.nil)))) ?_
      obtain ⟨o25, h24, hr⟩ := bd_some hr
      refine x_lw (P := P_208_27 H b c n B x1 s) (Q := fun x => match x with | .inl e => Ex d am_M208 scr (PX_208_27 H b c n B x1 s e) res | .inr r => res = (.inl (some (.int r)), H, c, n)) (fun s o h1 ka kx => g_208_27 hd hR h1 ka (fun e he => kx (.inl e) he) (fun r he => kx (.inr r) he)) _ 0 _ h24 ?_
      rcases o25 with e | r26
      · show Ex d am_M208 scr (99, [some (.ref b), some (.int x1), some (.int s), none], [], H, c, n) res
        refine x_fg (Lq.s (Lq.s (Lq.s (Lq.s Lq.nil)))) ?_
        exact j_208_2_j99 hd hR hr ka kx kr
      · exact kr _ (Option.some.inj hr).symm
    · refine x_cf rfl rfl (decide_eq_false h6) ?_
      refine x_b 1 (S2 := (99, [some (.ref b), some (.int x1), some (.int s), none], [], H, c, n)) rfl ?_
      refine x_fg (Lq.s (Lq.s (Lq.s (Lq.s Lq.nil)))) ?_
      exact j_208_2_j99 hd hR hr ka kx kr
/-- PebbleProofsModel.leadsOn(I)Z -/
def F_208 (B : Md) (x1 : Int32) : Option (Int32) :=
  (lw (G_208_2 B x1) 200000 0).bind fun r =>
    match r with
    | .inr r30 => some r30
    | .inl _ =>
      some 0
theorem f_208 {d : Nat} (hd : 3 ≤ d) {scr : ASc} {res : ARe} {c n : Nat} {H : AHp} {b : Nat} {B : Md} {x1 : Int32} (hR : Rg H b (Md.cells b B)) {o : Int32} (hr : F_208 B x1 = some o) (kr : res = (.inl (some (.int o)), H, c, n)) : Ex d am_M208 scr (0, [some (.ref b), some (.int x1), none, none], [], H, c, n) res := by
  delta F_208 at hr
  refine x_b 2 (S2 := (2, [some (.ref b), some (.int x1), some (.int 0), none], [], H, c, n)) rfl ?_
  refine x_fg (Lq.s (Lq.s (Lq.s (Lq.s Lq.nil)))) ?_
  obtain ⟨o28, h27, hr⟩ := bd_some hr
  refine x_lw (P := P_208_2 H b c n B x1) (Q := fun x => match x with | .inl e => Ex d am_M208 scr (PX_208_2 H b c n B x1 e) res | .inr r => res = (.inl (some (.int r)), H, c, n)) (fun s o h1 ka kx => g_208_2 hd hR h1 ka (fun e he => kx (.inl e) he) (fun r he => kx (.inr r) he)) _ 0 _ h27 ?_
  rcases o28 with e | r30
  · show Ex d am_M208 scr (105, [none, none, none, none], [], H, c, n) res
    refine x_b 1 (S2 := (106, [none, none, none, none], [.int 0], H, c, n)) rfl ?_
    cases hr
    rw [kr]
    exact x_ret rfl rfl (am_ret_z (by decide))
  · cases hr; exact kr
theorem m_208 {H : AHp} {b : Nat} {B : Md} {x1 : Int32} (hR : Rg H b (Md.cells b B)) {o : Int32} (hr : F_208 B x1 = some o) : Rn 4 208 [.ref b, .int x1] H (.inl (some (.int o)), H, 0, 0) :=
  x_meth (M := am_M208) rfl (show 2 ≤ 4 by decide) (f_208 (Nat.le_refl _) hR hr rfl)
abbrev P_209_11 (h : AHp) (b : Nat) (c n : Nat)  (s : Int32 × (Md)) : ASt := (11, [some (.ref b), none, some (.int s.1)], [], (hput h b (Md.cells b s.2)), c, n)
abbrev PX_209_11 (h : AHp) (b : Nat) (c n : Nat)  (s : (Md)) : ASt := (46, [none, none, none], [], (hput h b (Md.cells b s)), c, n)
def G_209_11  (s : Int32 × (Md)) : Option ((Int32 × (Md)) ⊕ ((Md))) := 
  match s with
  | (x2, B) =>
    if B.piles ≤ x2 then
      some (.inr B)
    else
      (ix x2 32768).bind fun i6 =>
      (F_208 B (B.byTotal i6)).bind fun v9 =>
      (ix (B.byTotal i6) 32768).bind fun i10 =>
      if v9 = 0 ∨ v9 = 1 then (
        (some (B.w_isReached (upd B.isReached i10 v9))).bind fun B12 =>
        some (.inl ((x2 + 1), B12))) else none
theorem g_209_11 {d : Nat} (hd : 4 ≤ d) {scr : ASc} {res : ARe} {c n : Nat} {h : AHp} {b : Nat} (hb : b + 17 ≤ am_SB) (hh : b + 17 ≤ h.length)  {s : Int32 × (Md)} {o : (Int32 × (Md)) ⊕ ((Md))} (hr : G_209_11  s = some o) (ka : ∀ s, o = .inl s → Ex d am_M209 scr (P_209_11 h b c n  s) res) (kx : ∀ s, o = .inr s → Ex d am_M209 scr (PX_209_11 h b c n  s) res) : Ex d am_M209 scr (P_209_11 h b c n  s) res := by
  obtain ⟨x2, B⟩ := s
  delta G_209_11 at hr
  show Ex d am_M209 scr (11, [some (.ref b), none, some (.int x2)], [], (hput h b (Md.cells b B)), c, n) res
  refine x_b 1 (S2 := (12, [some (.ref b), none, some (.int x2)], [.int x2], (hput h b (Md.cells b B)), c, n)) rfl ?_
  refine x_ldan rfl rfl rfl (h_lt (i := 0) hb (by decide)) ?_
  refine x_getf rfl rfl (h_lt (i := 0) hb (by decide)) (hp_at (i := 0) hh rfl rfl) rfl ?_
  rcases ite_some hr with ⟨h5, hr⟩ | ⟨h5, hr⟩
  · refine x_ct rfl rfl (decide_eq_true h5) ?_
    refine x_fg (Lq.n (Lq.s (Lq.n Lq.nil))) ?_
    exact kx B (Option.some.inj hr).symm
  · refine x_cf rfl rfl (decide_eq_false h5) ?_
    refine x_ldan rfl rfl rfl (h_lt (i := 0) hb (by decide)) ?_
    refine x_getf rfl rfl (h_lt (i := 0) hb (by decide)) (hp_at (i := 0) hh rfl rfl) rfl ?_
    refine x_ldan rfl rfl rfl (h_lt (i := 0) hb (by decide)) ?_
    refine x_getf rfl rfl (h_lt (i := 0) hb (by decide)) (hp_at (i := 0) hh rfl rfl) rfl ?_
    refine x_b 1 (S2 := (28, [some (.ref b), none, some (.int x2)], [.int x2, .ref (b + 9), .ref (b + 7)], (hput h b (Md.cells b B)), c, n)) rfl ?_
    obtain ⟨i6, h7, hr⟩ := bd_some hr
    refine x_iald rfl rfl (h_lt (i := 9) hb (by decide)) (hp_at (i := 9) hh rfl rfl) h7 ?_
    refine x_ldan rfl rfl rfl (h_lt (i := 0) hb (by decide)) ?_
    refine x_ldan rfl rfl rfl (h_lt (i := 0) hb (by decide)) ?_
    refine x_getf rfl rfl (h_lt (i := 0) hb (by decide)) (hp_at (i := 0) hh rfl rfl) rfl ?_
    refine x_b 1 (S2 := (35, [some (.ref b), none, some (.int x2)], [.int x2, .ref (b + 9), .ref b, .int (B.byTotal i6), .ref (b + 7)], (hput h b (Md.cells b B)), c, n)) rfl ?_
    refine x_iald rfl rfl (h_lt (i := 9) hb (by decide)) (hp_at (i := 9) hh rfl rfl) h7 ?_
    obtain ⟨v9, h8, hr⟩ := bd_some hr
    refine x_c0 (m_208 (hp_rg hb hh rfl) h8) rfl rfl rfl rfl (am_recv_v (h_lt (i := 0) hb (by decide)) (hp_at (i := 0) hh rfl rfl) rfl) (by omega) ?_
    obtain ⟨i10, h11, hr⟩ := bd_some hr
    obtain ⟨h14, hr⟩ := itn_some hr
    obtain ⟨B12, h13, hr⟩ := bd_some hr
    refine x_bast (H := (hput h b (Md.cells b B12))) rfl rfl (h_lt (i := 7) hb (by decide)) (hp_at (i := 7) hh rfl rfl) h11 h14 (hp_set (i := 7) hh rfl (by decide) (Md.s_isReached h13)) ?_
    refine x_b 2 (S2 := (11, [some (.ref b), none, some (.int (x2 + 1))], [], (hput h b (Md.cells b B12)), c, n)) rfl ?_
    refine x_fg (Lq.s (Lq.s (Lq.s Lq.nil))) ?_
    exact ka ((x2 + 1), B12) (Option.some.inj hr).symm
/-- PebbleProofsModel.layTable(I)V -/
def F_209 (B : Md) (x1 : Int32) : Option (Md) :=
  (F_206 B x1).bind fun B2 =>
  (F_207 B2).bind fun B4 =>
  (lw (G_209_11 ) 200000 (0, B4)).bind fun B16 =>
  some B16
theorem f_209 {d : Nat} (hd : 4 ≤ d) {scr : ASc} {res : ARe} {c n : Nat} {h : AHp} {b : Nat} (hb : b + 17 ≤ am_SB) (hh : b + 17 ≤ h.length) {B : Md} {x1 : Int32} {o : Md} (hr : F_209 B x1 = some o) (kr : res = (.inl (none), hput h b (Md.cells b o), c, n)) : Ex d am_M209 scr (0, [some (.ref b), some (.int x1), none], [], (hput h b (Md.cells b B)), c, n) res := by
  delta F_209 at hr
  refine x_ldan rfl rfl rfl (h_lt (i := 0) hb (by decide)) ?_
  refine x_b 1 (S2 := (2, [some (.ref b), some (.int x1), none], [.int x1, .ref b], (hput h b (Md.cells b B)), c, n)) rfl ?_
  obtain ⟨B2, h1, hr⟩ := bd_some hr
  refine x_c0 (m_206 hb hh h1) rfl rfl rfl rfl (am_recv_v (h_lt (i := 0) hb (by decide)) (hp_at (i := 0) hh rfl rfl) rfl) (by omega) ?_
  refine x_ldan rfl rfl rfl (h_lt (i := 0) hb (by decide)) ?_
  obtain ⟨B4, h3, hr⟩ := bd_some hr
  refine x_c0 (m_207 hb hh h3) rfl rfl rfl rfl (am_recv_v (h_lt (i := 0) hb (by decide)) (hp_at (i := 0) hh rfl rfl) rfl) (by omega) ?_
  refine x_b 2 (S2 := (11, [some (.ref b), some (.int x1), some (.int 0)], [], (hput h b (Md.cells b B4)), c, n)) rfl ?_
  refine x_fg (Lq.s (Lq.n (Lq.s Lq.nil))) ?_
  obtain ⟨B16, h15, hr⟩ := bd_some hr
  refine x_lw (P := P_209_11 h b c n ) (Q := fun x => Ex d am_M209 scr (PX_209_11 h b c n  x) res) (fun s o h1 ka kx => g_209_11 hd hb hh h1 ka kx) _ (0, B4) _ h15 ?_
  show Ex d am_M209 scr (46, [none, none, none], [], (hput h b (Md.cells b B16)), c, n) res
  cases hr
  rw [kr]
  exact x_ret rfl rfl rfl
theorem m_209 {h : AHp} {b : Nat} (hb : b + 17 ≤ am_SB) (hh : b + 17 ≤ h.length) {B : Md} {x1 : Int32} {o : Md} (hr : F_209 B x1 = some o) : Rn 5 209 [.ref b, .int x1] (hput h b (Md.cells b B)) (.inl (none), hput h b (Md.cells b o), 0, 0) :=
  x_meth (M := am_M209) rfl (show 2 ≤ 3 by decide) (f_209 (Nat.le_refl _) hb hh hr rfl)
abbrev P_210_4 (H : AHp) (b : Nat) (c n : Nat) (B : Md) (s : Int32 × Int32) : ASt := (4, [some (.ref b), none, some (.int s.1), some (.int s.2)], [], H, c, n)
abbrev PX_210_4 (H : AHp) (b : Nat) (c n : Nat) (B : Md) (s : Int32) : ASt := (51, [some (.ref b), none, some (.int s), none], [], H, c, n)
def G_210_4 (B : Md) (s : Int32 × Int32) : Option ((Int32 × Int32) ⊕ (Int32) ⊕ (Int32)) := 
  match s with
  | (x2, x3) =>
    (ix 0 93).bind fun i1 =>
    if (B.now i1) ≤ x3 then
      some (.inr (.inl x2))
    else
      (F_176 B x3).bind fun v5 =>
      (ix x3 6).bind fun i6 =>
      if v5 < (B.room i6) then
        (F_176 B x3).bind fun v10 =>
        some (.inl ((x2 + ((B.unit i6) * v10)), (x3 + 1)))
      else
        some (.inr (.inr 1))
theorem g_210_4 {d : Nat} (hd : 2 ≤ d) {scr : ASc} {res : ARe} {c n : Nat} {H : AHp} {b : Nat} {B : Md} (hR : Rg H b (Md.cells b B)) {s : Int32 × Int32} {o : (Int32 × Int32) ⊕ (Int32) ⊕ (Int32)} (hr : G_210_4 B s = some o) (ka : ∀ s, o = .inl s → Ex d am_M210 scr (P_210_4 H b c n B s) res) (kx : ∀ s, o = .inr (.inl s) → Ex d am_M210 scr (PX_210_4 H b c n B s) res) (kr : ∀ r, o = .inr (.inr r) → res = (.inl (some (.int r)), H, c, n)) : Ex d am_M210 scr (P_210_4 H b c n B s) res := by
  obtain ⟨x2, x3⟩ := s
  delta G_210_4 at hr
  show Ex d am_M210 scr (4, [some (.ref b), none, some (.int x2), some (.int x3)], [], H, c, n) res
  refine x_b 1 (S2 := (5, [some (.ref b), none, some (.int x2), some (.int x3)], [.int x3], H, c, n)) rfl ?_
  refine x_ldan rfl rfl rfl (hR.lt (i := 0) (show 0 < 17 by decide)) ?_
  refine x_getf rfl rfl (hR.lt (i := 0) (show 0 < 17 by decide)) (hR.at (i := 0) rfl) rfl ?_
  refine x_b 1 (S2 := (10, [some (.ref b), none, some (.int x2), some (.int x3)], [.int 0, .ref (b + 3), .int x3], H, c, n)) rfl ?_
  obtain ⟨i1, h2, hr⟩ := bd_some hr
  refine x_iald rfl rfl (hR.lt (i := 3) (show 3 < 17 by decide)) (hR.at (i := 3) rfl) h2 ?_
  rcases ite_some hr with ⟨h3, hr⟩ | ⟨h3, hr⟩
  · refine x_ct rfl rfl (decide_eq_true h3) ?_
    refine x_fg (Lq.s (Lq.s (Lq.s (Lq.n Lq.nil)))) ?_
    exact kx x2 (Option.some.inj hr).symm
  · refine x_cf rfl rfl (decide_eq_false h3) ?_
    refine x_ldan rfl rfl rfl (hR.lt (i := 0) (show 0 < 17 by decide)) ?_
    refine x_b 1 (S2 := (16, [some (.ref b), none, some (.int x2), some (.int x3)], [.int x3, .ref b], H, c, n)) rfl ?_
    obtain ⟨v5, h4, hr⟩ := bd_some hr
    refine x_c0 (m_176 hR h4) rfl rfl rfl rfl (am_recv_v (hR.lt (i := 0) (show 0 < 17 by decide)) (hR.at (i := 0) rfl) rfl) (by omega) ?_
    refine x_ldan rfl rfl rfl (hR.lt (i := 0) (show 0 < 17 by decide)) ?_
    refine x_getf rfl rfl (hR.lt (i := 0) (show 0 < 17 by decide)) (hR.at (i := 0) rfl) rfl ?_
    refine x_b 1 (S2 := (24, [some (.ref b), none, some (.int x2), some (.int x3)], [.int x3, .ref (b + 11), .int v5], H, c, n)) rfl ?_
    obtain ⟨i6, h7, hr⟩ := bd_some hr
    refine x_iald rfl rfl (hR.lt (i := 11) (show 11 < 17 by decide)) (hR.at (i := 11) rfl) h7 ?_
    rcases ite_some hr with ⟨h8, hr⟩ | ⟨h8, hr⟩
    · refine x_ct rfl rfl (decide_eq_true h8) ?_
      refine x_b 1 (S2 := (31, [some (.ref b), none, some (.int x2), some (.int x3)], [.int x2], H, c, n)) rfl ?_
      refine x_ldan rfl rfl rfl (hR.lt (i := 0) (show 0 < 17 by decide)) ?_
      refine x_getf rfl rfl (hR.lt (i := 0) (show 0 < 17 by decide)) (hR.at (i := 0) rfl) rfl ?_
      refine x_b 1 (S2 := (36, [some (.ref b), none, some (.int x2), some (.int x3)], [.int x3, .ref (b + 12), .int x2], H, c, n)) rfl ?_
      refine x_iald rfl rfl (hR.lt (i := 12) (show 12 < 17 by decide)) (hR.at (i := 12) rfl) h7 ?_
      refine x_ldan rfl rfl rfl (hR.lt (i := 0) (show 0 < 17 by decide)) ?_
      refine x_b 1 (S2 := (39, [some (.ref b), none, some (.int x2), some (.int x3)], [.int x3, .ref b, .int (B.unit i6), .int x2], H, c, n)) rfl ?_
      obtain ⟨v10, h9, hr⟩ := bd_some hr
      refine x_c0 (m_176 hR h9) rfl rfl rfl rfl (am_recv_v (hR.lt (i := 0) (show 0 < 17 by decide)) (hR.at (i := 0) rfl) rfl) (by omega) ?_
      refine x_b 5 (S2 := (4, [some (.ref b), none, some (.int (x2 + ((B.unit i6) * v10))), some (.int (x3 + 1))], [], H, c, n)) rfl ?_
      refine x_fg (Lq.s (Lq.s (Lq.s (Lq.s Lq.nil)))) ?_
      exact ka ((x2 + ((B.unit i6) * v10)), (x3 + 1)) (Option.some.inj hr).symm
    · refine x_cf rfl rfl (decide_eq_false h8) ?_
      refine x_b 1 (S2 := (29, [some (.ref b), none, some (.int x2), some (.int x3)], [.int 1], H, c, n)) rfl ?_
      rw [kr _ (Option.some.inj hr).symm]
      exact x_ret rfl rfl (am_ret_z (by decide))
/-- PebbleProofsModel.reaches(I)Z -/
def F_210 (B : Md) (x1 : Int32) : Option (Int32) :=
  (lw (G_210_4 B) 200000 (0, 0)).bind fun r =>
    match r with
    | .inr r18 => some r18
    | .inl v13 =>
      (ix v13 32768).bind fun i15 =>
      if (B.isReached i15) = 0 ∨ (B.isReached i15) = 1 then some (B.isReached i15) else none
theorem f_210 {d : Nat} (hd : 2 ≤ d) {scr : ASc} {res : ARe} {c n : Nat} {H : AHp} {b : Nat} {B : Md} {x1 : Int32} (hR : Rg H b (Md.cells b B)) {o : Int32} (hr : F_210 B x1 = some o) (kr : res = (.inl (some (.int o)), H, c, n)) : Ex d am_M210 scr (0, [some (.ref b), some (.int x1), none, none], [], H, c, n) res := by
  delta F_210 at hr
  refine x_b 4 (S2 := (4, [some (.ref b), some (.int x1), some (.int 0), some (.int 0)], [], H, c, n)) rfl ?_
  refine x_fg (Lq.s (Lq.n (Lq.s (Lq.s Lq.nil)))) ?_
  obtain ⟨o14, h12, hr⟩ := bd_some hr
  refine x_lw (P := P_210_4 H b c n B) (Q := fun x => match x with | .inl e => Ex d am_M210 scr (PX_210_4 H b c n B e) res | .inr r => res = (.inl (some (.int r)), H, c, n)) (fun s o h1 ka kx => g_210_4 hd hR h1 ka (fun e he => kx (.inl e) he) (fun r he => kx (.inr r) he)) _ (0, 0) _ h12 ?_
  rcases o14 with v13 | r18
  · show Ex d am_M210 scr (51, [some (.ref b), none, some (.int v13), none], [], H, c, n) res
    refine x_ldan rfl rfl rfl (hR.lt (i := 0) (show 0 < 17 by decide)) ?_
    refine x_getf rfl rfl (hR.lt (i := 0) (show 0 < 17 by decide)) (hR.at (i := 0) rfl) rfl ?_
    refine x_b 1 (S2 := (56, [some (.ref b), none, some (.int v13), none], [.int v13, .ref (b + 7)], H, c, n)) rfl ?_
    obtain ⟨i15, h16, hr⟩ := bd_some hr
    refine x_bald rfl rfl (hR.lt (i := 7) (show 7 < 17 by decide)) (hR.at (i := 7) rfl) h16 ?_
    obtain ⟨h17, hr⟩ := itn_some hr
    cases hr
    rw [kr]
    exact x_ret rfl rfl (am_ret_z h17)
  · cases hr; exact kr
theorem m_210 {H : AHp} {b : Nat} {B : Md} {x1 : Int32} (hR : Rg H b (Md.cells b B)) {o : Int32} (hr : F_210 B x1 = some o) : Rn 3 210 [.ref b, .int x1] H (.inl (some (.int o)), H, 0, 0) :=
  x_meth (M := am_M210) rfl (show 2 ≤ 4 by decide) (f_210 (Nat.le_refl _) hR hr rfl)
/-- PebbleProofsModel.leadsOnBy(III)Z -/
def F_213 (B : Md) (x1 : Int32) (x2 : Int32) (x3 : Int32) : Option (Int32 × (Md)) :=
  (F_192 B x1 x2).bind fun v2 =>
  if ¬ v2 = 0 then
    (F_190 B x1 x2).bind fun B5 =>
    (F_210 B5 x3).bind fun v7 =>
    (F_191 B5 x1 x2).bind fun B9 =>
    if v7 = 0 ∨ v7 = 1 then some (v7, B9) else none
  else
    some (0, B)
theorem f_213 {d : Nat} (hd : 4 ≤ d) {scr : ASc} {res : ARe} {c n : Nat} {h : AHp} {b : Nat} (hb : b + 17 ≤ am_SB) (hh : b + 17 ≤ h.length) {B : Md} {x1 : Int32} {x2 : Int32} {x3 : Int32} {o : Int32 × (Md)} (hr : F_213 B x1 x2 x3 = some o) (kr : res = (.inl (some (.int o.1)), hput h b (Md.cells b o.2), c, n)) : Ex d am_M213 scr (0, [some (.ref b), some (.int x1), some (.int x2), some (.int x3), none], [], (hput h b (Md.cells b B)), c, n) res := by
  delta F_213 at hr
  refine x_ldan rfl rfl rfl (h_lt (i := 0) hb (by decide)) ?_
  refine x_b 2 (S2 := (3, [some (.ref b), some (.int x1), some (.int x2), some (.int x3), none], [.int x2, .int x1, .ref b], (hput h b (Md.cells b B)), c, n)) rfl ?_
  obtain ⟨v2, h1, hr⟩ := bd_some hr
  refine x_c0 (m_192 (hp_rg hb hh rfl) h1) rfl rfl rfl rfl (am_recv_v (h_lt (i := 0) hb (by decide)) (hp_at (i := 0) hh rfl rfl) rfl) (by omega) ?_
  rcases ite_some hr with ⟨h3, hr⟩ | ⟨h3, hr⟩
  · refine x_zt rfl rfl (decide_eq_true h3) ?_
    refine x_ldan rfl rfl rfl (h_lt (i := 0) hb (by decide)) ?_
    refine x_b 2 (S2 := (14, [some (.ref b), some (.int x1), some (.int x2), some (.int x3), none], [.int x2, .int x1, .ref b], (hput h b (Md.cells b B)), c, n)) rfl ?_
    obtain ⟨B5, h4, hr⟩ := bd_some hr
    refine x_c0 (m_190 hb hh h4) rfl rfl rfl rfl (am_recv_v (h_lt (i := 0) hb (by decide)) (hp_at (i := 0) hh rfl rfl) rfl) (by omega) ?_
    refine x_ldan rfl rfl rfl (h_lt (i := 0) hb (by decide)) ?_
    refine x_b 1 (S2 := (19, [some (.ref b), some (.int x1), some (.int x2), some (.int x3), none], [.int x3, .ref b], (hput h b (Md.cells b B5)), c, n)) rfl ?_
    obtain ⟨v7, h6, hr⟩ := bd_some hr
    refine x_c0 (m_210 (hp_rg hb hh rfl) h6) rfl rfl rfl rfl (am_recv_v (h_lt (i := 0) hb (by decide)) (hp_at (i := 0) hh rfl rfl) rfl) (by omega) ?_
    refine x_b 1 (S2 := (24, [some (.ref b), some (.int x1), some (.int x2), some (.int x3), some (.int v7)], [], (hput h b (Md.cells b B5)), c, n)) rfl ?_
    refine x_ldan rfl rfl rfl (h_lt (i := 0) hb (by decide)) ?_
    refine x_b 2 (S2 := (27, [some (.ref b), some (.int x1), some (.int x2), some (.int x3), some (.int v7)], [.int x2, .int x1, .ref b], (hput h b (Md.cells b B5)), c, n)) rfl ?_
    obtain ⟨B9, h8, hr⟩ := bd_some hr
    refine x_c0 (m_191 hb hh h8) rfl rfl rfl rfl (am_recv_v (h_lt (i := 0) hb (by decide)) (hp_at (i := 0) hh rfl rfl) rfl) (by omega) ?_
    refine x_b 1 (S2 := (32, [some (.ref b), some (.int x1), some (.int x2), some (.int x3), some (.int v7)], [.int v7], (hput h b (Md.cells b B9)), c, n)) rfl ?_
    obtain ⟨h10, hr⟩ := itn_some hr
    cases hr
    rw [kr]
    exact x_ret rfl rfl (am_ret_z h10)
  · refine x_zf rfl rfl (decide_eq_false h3) ?_
    refine x_b 1 (S2 := (10, [some (.ref b), some (.int x1), some (.int x2), some (.int x3), none], [.int 0], (hput h b (Md.cells b B)), c, n)) rfl ?_
    cases hr
    rw [kr]
    exact x_ret rfl rfl (am_ret_z (by decide))
theorem m_213 {h : AHp} {b : Nat} (hb : b + 17 ≤ am_SB) (hh : b + 17 ≤ h.length) {B : Md} {x1 : Int32} {x2 : Int32} {x3 : Int32} {o : Int32 × (Md)} (hr : F_213 B x1 x2 x3 = some o) : Rn 5 213 [.ref b, .int x1, .int x2, .int x3] (hput h b (Md.cells b B)) (.inl (some (.int o.1)), hput h b (Md.cells b o.2), 0, 0) :=
  x_meth (M := am_M213) rfl (show 4 ≤ 5 by decide) (f_213 (Nat.le_refl _) hb hh hr rfl)
abbrev P_214_2 (h : AHp) (b : Nat) (c n : Nat) (x1 : Int32) (s : Int32 × (Md)) : ASt := (2, [some (.ref b), some (.int x1), some (.int s.1), none], [], (hput h b (Md.cells b s.2)), c, n)
abbrev PX_214_2 (h : AHp) (b : Nat) (c n : Nat) (x1 : Int32) (s : (Md)) : ASt := (53, [none, none, none, none], [], (hput h b (Md.cells b s)), c, n)
abbrev P_214_14 (h : AHp) (b : Nat) (c n : Nat) (x1 : Int32) (x2 : Int32) (s : Int32 × (Md)) : ASt := (14, [some (.ref b), some (.int x1), some (.int x2), some (.int s.1)], [], (hput h b (Md.cells b s.2)), c, n)
abbrev PX_214_14 (h : AHp) (b : Nat) (c n : Nat) (x1 : Int32) (x2 : Int32) (s : (Md)) : ASt := (47, [some (.ref b), some (.int x1), some (.int x2), none], [], (hput h b (Md.cells b s)), c, n)
def G_214_14 (x1 : Int32) (x2 : Int32) (s : Int32 × (Md)) : Option ((Int32 × (Md)) ⊕ ((Md)) ⊕ (Int32 × (Md))) := 
  match s with
  | (x3, B) =>
    (ix 0 93).bind fun i4 =>
    if (B.now i4) ≤ x3 then
      some (.inr (.inl B))
    else
      (F_213 B x2 x3 x1).bind fun (v8, B9) =>
      if v8 = 0 then
        some (.inl ((x3 + 1), B9))
      else
        some (.inr (.inr (((10 * x2) + x3), B9)))
theorem g_214_14 {d : Nat} (hd : 5 ≤ d) {scr : ASc} {res : ARe} {c n : Nat} {h : AHp} {b : Nat} (hb : b + 17 ≤ am_SB) (hh : b + 17 ≤ h.length) {x1 : Int32} {x2 : Int32} {s : Int32 × (Md)} {o : (Int32 × (Md)) ⊕ ((Md)) ⊕ (Int32 × (Md))} (hr : G_214_14 x1 x2 s = some o) (ka : ∀ s, o = .inl s → Ex d am_M214 scr (P_214_14 h b c n x1 x2 s) res) (kx : ∀ s, o = .inr (.inl s) → Ex d am_M214 scr (PX_214_14 h b c n x1 x2 s) res) (kr : ∀ r, o = .inr (.inr r) → res = (.inl (some (.int r.1)), hput h b (Md.cells b r.2), c, n)) : Ex d am_M214 scr (P_214_14 h b c n x1 x2 s) res := by
  obtain ⟨x3, B⟩ := s
  delta G_214_14 at hr
  show Ex d am_M214 scr (14, [some (.ref b), some (.int x1), some (.int x2), some (.int x3)], [], (hput h b (Md.cells b B)), c, n) res
  refine x_b 1 (S2 := (15, [some (.ref b), some (.int x1), some (.int x2), some (.int x3)], [.int x3], (hput h b (Md.cells b B)), c, n)) rfl ?_
  refine x_ldan rfl rfl rfl (h_lt (i := 0) hb (by decide)) ?_
  refine x_getf rfl rfl (h_lt (i := 0) hb (by decide)) (hp_at (i := 0) hh rfl rfl) rfl ?_
  refine x_b 1 (S2 := (20, [some (.ref b), some (.int x1), some (.int x2), some (.int x3)], [.int 0, .ref (b + 3), .int x3], (hput h b (Md.cells b B)), c, n)) rfl ?_
  obtain ⟨i4, h5, hr⟩ := bd_some hr
  refine x_iald rfl rfl (h_lt (i := 3) hb (by decide)) (hp_at (i := 3) hh rfl rfl) h5 ?_
  rcases ite_some hr with ⟨h6, hr⟩ | ⟨h6, hr⟩
  · refine x_ct rfl rfl (decide_eq_true h6) ?_
    refine x_fg (Lq.s (Lq.s (Lq.s (Lq.n Lq.nil)))) ?_
    exact kx B (Option.some.inj hr).symm
  · refine x_cf rfl rfl (decide_eq_false h6) ?_
    refine x_ldan rfl rfl rfl (h_lt (i := 0) hb (by decide)) ?_
    refine x_b 3 (S2 := (28, [some (.ref b), some (.int x1), some (.int x2), some (.int x3)], [.int x1, .int x3, .int x2, .ref b], (hput h b (Md.cells b B)), c, n)) rfl ?_
    obtain ⟨⟨v8, B9⟩, h7, hr⟩ := bd_some hr
    refine x_c0 (m_213 hb hh h7) rfl rfl rfl rfl (am_recv_v (h_lt (i := 0) hb (by decide)) (hp_at (i := 0) hh rfl rfl) rfl) (by omega) ?_
    rcases ite_some hr with ⟨h10, hr⟩ | ⟨h10, hr⟩
    · refine x_zt rfl rfl (decide_eq_true h10) ?_
      refine x_b 2 (S2 := (14, [some (.ref b), some (.int x1), some (.int x2), some (.int (x3 + 1))], [], (hput h b (Md.cells b B9)), c, n)) rfl ?_
      refine x_fg (Lq.s (Lq.s (Lq.s (Lq.s Lq.nil)))) ?_
      exact ka ((x3 + 1), B9) (Option.some.inj hr).symm
    · refine x_zf rfl rfl (decide_eq_false h10) ?_
      refine x_b 5 (S2 := (40, [some (.ref b), some (.int x1), some (.int x2), some (.int x3)], [.int ((10 * x2) + x3)], (hput h b (Md.cells b B9)), c, n)) rfl ?_
      rw [kr _ (Option.some.inj hr).symm]
      exact x_ret rfl rfl am_ret_i
def G_214_2 (x1 : Int32) (s : Int32 × (Md)) : Option ((Int32 × (Md)) ⊕ ((Md)) ⊕ (Int32 × (Md))) := 
  match s with
  | (x2, B) =>
    (ix 0 93).bind fun i1 =>
    if (B.now i1) ≤ x2 then
      some (.inr (.inl B))
    else
      (lw (G_214_14 x1 x2) 200000 (0, B)).bind fun r =>
        match r with
        | .inr r14 => some (.inr (.inr r14))
        | .inl B12 =>
          some (.inl ((x2 + 1), B12))
theorem g_214_2 {d : Nat} (hd : 5 ≤ d) {scr : ASc} {res : ARe} {c n : Nat} {h : AHp} {b : Nat} (hb : b + 17 ≤ am_SB) (hh : b + 17 ≤ h.length) {x1 : Int32} {s : Int32 × (Md)} {o : (Int32 × (Md)) ⊕ ((Md)) ⊕ (Int32 × (Md))} (hr : G_214_2 x1 s = some o) (ka : ∀ s, o = .inl s → Ex d am_M214 scr (P_214_2 h b c n x1 s) res) (kx : ∀ s, o = .inr (.inl s) → Ex d am_M214 scr (PX_214_2 h b c n x1 s) res) (kr : ∀ r, o = .inr (.inr r) → res = (.inl (some (.int r.1)), hput h b (Md.cells b r.2), c, n)) : Ex d am_M214 scr (P_214_2 h b c n x1 s) res := by
  obtain ⟨x2, B⟩ := s
  delta G_214_2 at hr
  show Ex d am_M214 scr (2, [some (.ref b), some (.int x1), some (.int x2), none], [], (hput h b (Md.cells b B)), c, n) res
  refine x_b 1 (S2 := (3, [some (.ref b), some (.int x1), some (.int x2), none], [.int x2], (hput h b (Md.cells b B)), c, n)) rfl ?_
  refine x_ldan rfl rfl rfl (h_lt (i := 0) hb (by decide)) ?_
  refine x_getf rfl rfl (h_lt (i := 0) hb (by decide)) (hp_at (i := 0) hh rfl rfl) rfl ?_
  refine x_b 1 (S2 := (8, [some (.ref b), some (.int x1), some (.int x2), none], [.int 0, .ref (b + 3), .int x2], (hput h b (Md.cells b B)), c, n)) rfl ?_
  obtain ⟨i1, h2, hr⟩ := bd_some hr
  refine x_iald rfl rfl (h_lt (i := 3) hb (by decide)) (hp_at (i := 3) hh rfl rfl) h2 ?_
  rcases ite_some hr with ⟨h3, hr⟩ | ⟨h3, hr⟩
  · refine x_ct rfl rfl (decide_eq_true h3) ?_
    refine x_fg (Lq.n (Lq.n (Lq.n (Lq.s Lq.nil)))) ?_
    exact kx B (Option.some.inj hr).symm
  · refine x_cf rfl rfl (decide_eq_false h3) ?_
    refine x_b 2 (S2 := (14, [some (.ref b), some (.int x1), some (.int x2), some (.int 0)], [], (hput h b (Md.cells b B)), c, n)) rfl ?_
    refine x_fg (Lq.s (Lq.s (Lq.s (Lq.s Lq.nil)))) ?_
    obtain ⟨o13, h11, hr⟩ := bd_some hr
    refine x_lw (P := P_214_14 h b c n x1 x2) (Q := fun x => match x with | .inl e => Ex d am_M214 scr (PX_214_14 h b c n x1 x2 e) res | .inr r => res = (.inl (some (.int r.1)), hput h b (Md.cells b r.2), c, n)) (fun s o h1 ka kx => g_214_14 hd hb hh h1 ka (fun e he => kx (.inl e) he) (fun r he => kx (.inr r) he)) _ (0, B) _ h11 ?_
    rcases o13 with B12 | r14
    · show Ex d am_M214 scr (47, [some (.ref b), some (.int x1), some (.int x2), none], [], (hput h b (Md.cells b B12)), c, n) res
      refine x_b 2 (S2 := (2, [some (.ref b), some (.int x1), some (.int (x2 + 1)), none], [], (hput h b (Md.cells b B12)), c, n)) rfl ?_
      refine x_fg (Lq.s (Lq.s (Lq.s (Lq.s Lq.nil)))) ?_
      exact ka ((x2 + 1), B12) (Option.some.inj hr).symm
    · exact kr _ (Option.some.inj hr).symm
/-- PebbleProofsModel.nextMove(I)I -/
def F_214 (B : Md) (x1 : Int32) : Option (Int32 × (Md)) :=
  (lw (G_214_2 x1) 200000 (0, B)).bind fun r =>
    match r with
    | .inr r18 => some r18
    | .inl B16 =>
      some ((-1), B16)
theorem f_214 {d : Nat} (hd : 5 ≤ d) {scr : ASc} {res : ARe} {c n : Nat} {h : AHp} {b : Nat} (hb : b + 17 ≤ am_SB) (hh : b + 17 ≤ h.length) {B : Md} {x1 : Int32} {o : Int32 × (Md)} (hr : F_214 B x1 = some o) (kr : res = (.inl (some (.int o.1)), hput h b (Md.cells b o.2), c, n)) : Ex d am_M214 scr (0, [some (.ref b), some (.int x1), none, none], [], (hput h b (Md.cells b B)), c, n) res := by
  delta F_214 at hr
  refine x_b 2 (S2 := (2, [some (.ref b), some (.int x1), some (.int 0), none], [], (hput h b (Md.cells b B)), c, n)) rfl ?_
  refine x_fg (Lq.s (Lq.s (Lq.s (Lq.s Lq.nil)))) ?_
  obtain ⟨o17, h15, hr⟩ := bd_some hr
  refine x_lw (P := P_214_2 h b c n x1) (Q := fun x => match x with | .inl e => Ex d am_M214 scr (PX_214_2 h b c n x1 e) res | .inr r => res = (.inl (some (.int r.1)), hput h b (Md.cells b r.2), c, n)) (fun s o h1 ka kx => g_214_2 hd hb hh h1 ka (fun e he => kx (.inl e) he) (fun r he => kx (.inr r) he)) _ (0, B) _ h15 ?_
  rcases o17 with B16 | r18
  · show Ex d am_M214 scr (53, [none, none, none, none], [], (hput h b (Md.cells b B16)), c, n) res
    refine x_b 1 (S2 := (54, [none, none, none, none], [.int (-1)], (hput h b (Md.cells b B16)), c, n)) rfl ?_
    cases hr
    rw [kr]
    exact x_ret rfl rfl am_ret_i
  · cases hr; exact kr
theorem m_214 {h : AHp} {b : Nat} (hb : b + 17 ≤ am_SB) (hh : b + 17 ≤ h.length) {B : Md} {x1 : Int32} {o : Int32 × (Md)} (hr : F_214 B x1 = some o) : Rn 6 214 [.ref b, .int x1] (hput h b (Md.cells b B)) (.inl (some (.int o.1)), hput h b (Md.cells b o.2), 0, 0) :=
  x_meth (M := am_M214) rfl (show 2 ≤ 4 by decide) (f_214 (Nat.le_refl _) hb hh hr rfl)
abbrev P_194_56 (h : AHp) (b : Nat) (c n : Nat) (x1 : Int32) (s : Int32 × (Md)) : ASt := (56, [some (.ref b), some (.int x1), some (.int s.1), none], [], (hput h b (Md.cells b s.2)), c, n)
abbrev PX_194_56 (h : AHp) (b : Nat) (c n : Nat) (x1 : Int32) (s : Int32 × (Md)) : ASt := (88, [none, none, some (.int s.1), none], [], (hput h b (Md.cells b s.2)), c, n)
def G_194_56 (x1 : Int32) (s : Int32 × (Md)) : Option ((Int32 × (Md)) ⊕ (Int32 × (Md))) := 
  match s with
  | (x2, B) =>
    (F_176 B x1).bind fun v21 =>
    if ¬ v21 = 0 then
      some (.inr (x2, B))
    else
      (F_214 B x1).bind fun (v24, B25) =>
      (F_190 B25 (v24 / 10) (v24 - v24 / 10 * 10)).bind fun B29 =>
      some (.inl ((x2 + 1), B29))
theorem g_194_56 {d : Nat} (hd : 6 ≤ d) {scr : ASc} {res : ARe} {c n : Nat} {h : AHp} {b : Nat} (hb : b + 17 ≤ am_SB) (hh : b + 17 ≤ h.length) {x1 : Int32} {s : Int32 × (Md)} {o : (Int32 × (Md)) ⊕ (Int32 × (Md))} (hr : G_194_56 x1 s = some o) (ka : ∀ s, o = .inl s → Ex d am_M194 scr (P_194_56 h b c n x1 s) res) (kx : ∀ s, o = .inr s → Ex d am_M194 scr (PX_194_56 h b c n x1 s) res) : Ex d am_M194 scr (P_194_56 h b c n x1 s) res := by
  obtain ⟨x2, B⟩ := s
  delta G_194_56 at hr
  show Ex d am_M194 scr (56, [some (.ref b), some (.int x1), some (.int x2), none], [], (hput h b (Md.cells b B)), c, n) res
  refine x_ldan rfl rfl rfl (h_lt (i := 0) hb (by decide)) ?_
  refine x_b 1 (S2 := (58, [some (.ref b), some (.int x1), some (.int x2), none], [.int x1, .ref b], (hput h b (Md.cells b B)), c, n)) rfl ?_
  obtain ⟨v21, h20, hr⟩ := bd_some hr
  refine x_c0 (m_176 (hp_rg hb hh rfl) h20) rfl rfl rfl rfl (am_recv_v (h_lt (i := 0) hb (by decide)) (hp_at (i := 0) hh rfl rfl) rfl) (by omega) ?_
  rcases ite_some hr with ⟨h22, hr⟩ | ⟨h22, hr⟩
  · refine x_zt rfl rfl (decide_eq_true h22) ?_
    refine x_fg (Lq.n (Lq.n (Lq.s (Lq.s Lq.nil)))) ?_
    exact kx (x2, B) (Option.some.inj hr).symm
  · refine x_zf rfl rfl (decide_eq_false h22) ?_
    refine x_ldan rfl rfl rfl (h_lt (i := 0) hb (by decide)) ?_
    refine x_b 1 (S2 := (66, [some (.ref b), some (.int x1), some (.int x2), none], [.int x1, .ref b], (hput h b (Md.cells b B)), c, n)) rfl ?_
    obtain ⟨⟨v24, B25⟩, h23, hr⟩ := bd_some hr
    refine x_c0 (m_214 hb hh h23) rfl rfl rfl rfl (am_recv_v (h_lt (i := 0) hb (by decide)) (hp_at (i := 0) hh rfl rfl) rfl) (by omega) ?_
    refine x_b 1 (S2 := (70, [some (.ref b), some (.int x1), some (.int x2), some (.int v24)], [], (hput h b (Md.cells b B25)), c, n)) rfl ?_
    refine x_ldan rfl rfl rfl (h_lt (i := 0) hb (by decide)) ?_
    refine x_b 2 (S2 := (74, [some (.ref b), some (.int x1), some (.int x2), some (.int v24)], [.int 10, .int v24, .ref b], (hput h b (Md.cells b B25)), c, n)) rfl ?_
    refine x_div rfl rfl (by decide) ?_
    refine x_b 2 (S2 := (78, [some (.ref b), some (.int x1), some (.int x2), some (.int v24)], [.int 10, .int v24, .int (v24 / 10), .ref b], (hput h b (Md.cells b B25)), c, n)) rfl ?_
    refine x_rem rfl rfl (by decide) ?_
    obtain ⟨B29, h28, hr⟩ := bd_some hr
    refine x_c0 (m_190 hb hh h28) rfl rfl rfl rfl (am_recv_v (h_lt (i := 0) hb (by decide)) (hp_at (i := 0) hh rfl rfl) rfl) (by omega) ?_
    refine x_b 2 (S2 := (56, [some (.ref b), some (.int x1), some (.int (x2 + 1)), some (.int v24)], [], (hput h b (Md.cells b B29)), c, n)) rfl ?_
    refine x_fg (Lq.s (Lq.s (Lq.s (Lq.n Lq.nil)))) ?_
    exact ka ((x2 + 1), B29) (Option.some.inj hr).symm
def J_194_0_j39 (B : Md) (x1 : Int32) (t0 : Int32) : Option (Int32 × (Md)) :=
  (F_180 B t0 6 2).bind fun (v15, B16) =>
  if v15 = 0 then
    (F_166 B16).bind fun B19 =>
    (lw (G_194_56 x1) 200000 (0, B19)).bind fun (v31, B32) =>
    some (v31, B32)
  else
    some (0, B16)
theorem j_194_0_j39 {d : Nat} (hd : 6 ≤ d) {scr : ASc} {res : ARe} {c n : Nat} {h : AHp} {b : Nat} (hb : b + 17 ≤ am_SB) (hh : b + 17 ≤ h.length) {B : Md} {x1 : Int32} {t0 : Int32} {o : Int32 × (Md)} (hr : J_194_0_j39 B x1 t0 = some o) (kr : res = (.inl (some (.int o.1)), hput h b (Md.cells b o.2), c, n)) : Ex d am_M194 scr (39, [some (.ref b), some (.int x1), none, none], [.int t0, .ref b], (hput h b (Md.cells b B)), c, n) res := by
  delta J_194_0_j39 at hr
  refine x_b 2 (S2 := (42, [some (.ref b), some (.int x1), none, none], [.int 2, .int 6, .int t0, .ref b], (hput h b (Md.cells b B)), c, n)) rfl ?_
  obtain ⟨⟨v15, B16⟩, h14, hr⟩ := bd_some hr
  refine x_c0 (m_180 hb hh h14) rfl rfl rfl rfl (am_recv_v (h_lt (i := 0) hb (by decide)) (hp_at (i := 0) hh rfl rfl) rfl) (by omega) ?_
  rcases ite_some hr with ⟨h17, hr⟩ | ⟨h17, hr⟩
  · refine x_zt rfl rfl (decide_eq_true h17) ?_
    refine x_ldan rfl rfl rfl (h_lt (i := 0) hb (by decide)) ?_
    obtain ⟨B19, h18, hr⟩ := bd_some hr
    refine x_c0 (m_166 hb hh h18) rfl rfl rfl rfl (am_recv_v (h_lt (i := 0) hb (by decide)) (hp_at (i := 0) hh rfl rfl) rfl) (by omega) ?_
    refine x_b 2 (S2 := (56, [some (.ref b), some (.int x1), some (.int 0), none], [], (hput h b (Md.cells b B19)), c, n)) rfl ?_
    refine x_fg (Lq.s (Lq.s (Lq.s (Lq.s Lq.nil)))) ?_
    obtain ⟨o33, h30, hr⟩ := bd_some hr
    refine x_lw (P := P_194_56 h b c n x1) (Q := fun x => Ex d am_M194 scr (PX_194_56 h b c n x1 x) res) (fun s o h1 ka kx => g_194_56 hd hb hh h1 ka kx) _ (0, B19) _ h30 ?_
    obtain ⟨v31, B32⟩ := o33
    show Ex d am_M194 scr (88, [none, none, some (.int v31), none], [], (hput h b (Md.cells b B32)), c, n) res
    refine x_b 1 (S2 := (89, [none, none, some (.int v31), none], [.int v31], (hput h b (Md.cells b B32)), c, n)) rfl ?_
    cases hr
    rw [kr]
    exact x_ret rfl rfl am_ret_i
  · refine x_zf rfl rfl (decide_eq_false h17) ?_
    refine x_b 1 (S2 := (49, [some (.ref b), some (.int x1), none, none], [.int 0], (hput h b (Md.cells b B16)), c, n)) rfl ?_
    cases hr
    rw [kr]
    exact x_ret rfl rfl am_ret_i
/-- PebbleProofsModel.reach(I)I -/
def F_194 (B : Md) (x1 : Int32) : Option (Int32 × (Md)) :=
  (some (B.w_thrown 0)).bind fun B1 =>
  (F_172 B1 x1).bind fun v4 =>
  (F_135 B1 v4 1).bind fun (v6, B7) =>
  if v6 = 0 then
    (F_209 B7 x1).bind fun B10 =>
    (F_210 B10 x1).bind fun v12 =>
    if ¬ v12 = 0 then
      J_194_0_j39 B10 x1 0
    else
      J_194_0_j39 B10 x1 1
  else
    some (0, B7)
theorem f_194 {d : Nat} (hd : 6 ≤ d) {scr : ASc} {res : ARe} {c n : Nat} {h : AHp} {b : Nat} (hb : b + 17 ≤ am_SB) (hh : b + 17 ≤ h.length) {B : Md} {x1 : Int32} {o : Int32 × (Md)} (hr : F_194 B x1 = some o) (kr : res = (.inl (some (.int o.1)), hput h b (Md.cells b o.2), c, n)) : Ex d am_M194 scr (0, [some (.ref b), some (.int x1), none, none], [], (hput h b (Md.cells b B)), c, n) res := by
  delta F_194 at hr
  refine x_ldan rfl rfl rfl (h_lt (i := 0) hb (by decide)) ?_
  refine x_b 1 (S2 := (2, [some (.ref b), some (.int x1), none, none], [.int 0, .ref b], (hput h b (Md.cells b B)), c, n)) rfl ?_
  obtain ⟨B1, h2, hr⟩ := bd_some hr
  refine x_putf (H := (hput h b (Md.cells b B1))) rfl rfl (h_lt (i := 0) hb (by decide)) (hp_at (i := 0) hh rfl rfl) ⟨(show 0 < 28 by decide), rfl, rfl, nofun⟩ (hp_set (i := 0) hh rfl (by decide) (Md.s_thrown rfl h2)) ?_
  refine x_ldan rfl rfl rfl (h_lt (i := 0) hb (by decide)) ?_
  refine x_ldan rfl rfl rfl (h_lt (i := 0) hb (by decide)) ?_
  refine x_b 1 (S2 := (8, [some (.ref b), some (.int x1), none, none], [.int x1, .ref b, .ref b], (hput h b (Md.cells b B1)), c, n)) rfl ?_
  obtain ⟨v4, h3, hr⟩ := bd_some hr
  refine x_c0 (m_172 (hp_rg hb hh rfl) h3) rfl rfl rfl rfl (am_recv_v (h_lt (i := 0) hb (by decide)) (hp_at (i := 0) hh rfl rfl) rfl) (by omega) ?_
  refine x_b 1 (S2 := (12, [some (.ref b), some (.int x1), none, none], [.int 1, .int v4, .ref b], (hput h b (Md.cells b B1)), c, n)) rfl ?_
  obtain ⟨⟨v6, B7⟩, h5, hr⟩ := bd_some hr
  refine x_c0 (m_135 hb hh h5) rfl rfl rfl rfl (am_recv_v (h_lt (i := 0) hb (by decide)) (hp_at (i := 0) hh rfl rfl) rfl) (by omega) ?_
  rcases ite_some hr with ⟨h8, hr⟩ | ⟨h8, hr⟩
  · refine x_zt rfl rfl (decide_eq_true h8) ?_
    refine x_ldan rfl rfl rfl (h_lt (i := 0) hb (by decide)) ?_
    refine x_b 1 (S2 := (22, [some (.ref b), some (.int x1), none, none], [.int x1, .ref b], (hput h b (Md.cells b B7)), c, n)) rfl ?_
    obtain ⟨B10, h9, hr⟩ := bd_some hr
    refine x_c0 (m_209 hb hh h9) rfl rfl rfl rfl (am_recv_v (h_lt (i := 0) hb (by decide)) (hp_at (i := 0) hh rfl rfl) rfl) (by omega) ?_
    refine x_ldan rfl rfl rfl (h_lt (i := 0) hb (by decide)) ?_
    refine x_ldan rfl rfl rfl (h_lt (i := 0) hb (by decide)) ?_
    refine x_b 1 (S2 := (28, [some (.ref b), some (.int x1), none, none], [.int x1, .ref b, .ref b], (hput h b (Md.cells b B10)), c, n)) rfl ?_
    obtain ⟨v12, h11, hr⟩ := bd_some hr
    refine x_c0 (m_210 (hp_rg hb hh rfl) h11) rfl rfl rfl rfl (am_recv_v (h_lt (i := 0) hb (by decide)) (hp_at (i := 0) hh rfl rfl) rfl) (by omega) ?_
    rcases ite_some hr with ⟨h13, hr⟩ | ⟨h13, hr⟩
    · refine x_zt rfl rfl (decide_eq_true h13) ?_
      refine x_b 1 (S2 := (39, [some (.ref b), some (.int x1), none, none], [.int 0, .ref b], (hput h b (Md.cells b B10)), c, n)) rfl ?_
      refine x_fg (Lq.s (Lq.s (Lq.s (Lq.s Lq.nil)))) ?_
      exact j_194_0_j39 hd hb hh hr kr
    · refine x_zf rfl rfl (decide_eq_false h13) ?_
      refine x_b 2 (S2 := (39, [some (.ref b), some (.int x1), none, none], [.int 1, .ref b], (hput h b (Md.cells b B10)), c, n)) rfl ?_
      refine x_fg (Lq.s (Lq.s (Lq.s (Lq.s Lq.nil)))) ?_
      exact j_194_0_j39 hd hb hh hr kr
  · refine x_zf rfl rfl (decide_eq_false h8) ?_
    refine x_b 1 (S2 := (19, [some (.ref b), some (.int x1), none, none], [.int 0], (hput h b (Md.cells b B7)), c, n)) rfl ?_
    cases hr
    rw [kr]
    exact x_ret rfl rfl am_ret_i
theorem m_194 {h : AHp} {b : Nat} (hb : b + 17 ≤ am_SB) (hh : b + 17 ≤ h.length) {B : Md} {x1 : Int32} {o : Int32 × (Md)} (hr : F_194 B x1 = some o) : Rn 7 194 [.ref b, .int x1] (hput h b (Md.cells b B)) (.inl (some (.int o.1)), hput h b (Md.cells b o.2), 0, 0) :=
  x_meth (M := am_M194) rfl (show 2 ≤ 4 by decide) (f_194 (Nat.le_refl _) hb hh hr rfl)
def J_195_0_j45 (B : Md) : Option (Int32 × (Md)) :=
  some (0, B)
theorem j_195_0_j45 {d : Nat} (hd : 3 ≤ d) {scr : ASc} {res : ARe} {c n : Nat} {h : AHp} {b : Nat} (hb : b + 17 ≤ am_SB) (hh : b + 17 ≤ h.length) {B : Md} {o : Int32 × (Md)} (hr : J_195_0_j45 B = some o) (kr : res = (.inl (some (.int o.1)), hput h b (Md.cells b o.2), c, n)) : Ex d am_M195 scr (45, [none, none], [], (hput h b (Md.cells b B)), c, n) res := by
  delta J_195_0_j45 at hr
  refine x_b 1 (S2 := (46, [none, none], [.int 0], (hput h b (Md.cells b B)), c, n)) rfl ?_
  cases hr
  rw [kr]
  exact x_ret rfl rfl am_ret_i
def J_195_0_j36 (B : Md) (x1 : Int32) (t0 : Int32) : Option (Int32 × (Md)) :=
  (F_180 B t0 7 2).bind fun (v13, B14) =>
  if v13 = 0 then
    (F_166 B14).bind fun B17 =>
    (F_152 93 B17.now x1).bind fun B19 =>
    (some (B17.w_now B19)).bind fun B20 =>
    (ix 14 93).bind fun i22 =>
    some (((B20.now i22) - 1), B20)
  else
    J_195_0_j45 B14
theorem j_195_0_j36 {d : Nat} (hd : 3 ≤ d) {scr : ASc} {res : ARe} {c n : Nat} {h : AHp} {b : Nat} (hb : b + 17 ≤ am_SB) (hh : b + 17 ≤ h.length) {B : Md} {x1 : Int32} {t0 : Int32} {o : Int32 × (Md)} (hr : J_195_0_j36 B x1 t0 = some o) (kr : res = (.inl (some (.int o.1)), hput h b (Md.cells b o.2), c, n)) : Ex d am_M195 scr (36, [some (.ref b), some (.int x1)], [.int t0, .ref b], (hput h b (Md.cells b B)), c, n) res := by
  delta J_195_0_j36 at hr
  refine x_b 2 (S2 := (39, [some (.ref b), some (.int x1)], [.int 2, .int 7, .int t0, .ref b], (hput h b (Md.cells b B)), c, n)) rfl ?_
  obtain ⟨⟨v13, B14⟩, h12, hr⟩ := bd_some hr
  refine x_c0 (m_180 hb hh h12) rfl rfl rfl rfl (am_recv_v (h_lt (i := 0) hb (by decide)) (hp_at (i := 0) hh rfl rfl) rfl) (by omega) ?_
  rcases ite_some hr with ⟨h15, hr⟩ | ⟨h15, hr⟩
  · refine x_zt rfl rfl (decide_eq_true h15) ?_
    refine x_ldan rfl rfl rfl (h_lt (i := 0) hb (by decide)) ?_
    obtain ⟨B17, h16, hr⟩ := bd_some hr
    refine x_c0 (m_166 hb hh h16) rfl rfl rfl rfl (am_recv_v (h_lt (i := 0) hb (by decide)) (hp_at (i := 0) hh rfl rfl) rfl) (by omega) ?_
    refine x_ldan rfl rfl rfl (h_lt (i := 0) hb (by decide)) ?_
    refine x_getf rfl rfl (h_lt (i := 0) hb (by decide)) (hp_at (i := 0) hh rfl rfl) rfl ?_
    refine x_b 1 (S2 := (56, [some (.ref b), some (.int x1)], [.int x1, .ref (b + 3)], (hput h b (Md.cells b B17)), c, n)) rfl ?_
    obtain ⟨B19, h18, hr⟩ := bd_some hr
    obtain ⟨B20, h21, hr⟩ := bd_some hr
    refine x_c0 (ar_call (H' := (hput h b (Md.cells b B20))) (fun hb hh => m_152 hb hh h18) (h_lt (i := 3) hb (by decide)) (hp_at (i := 3) hh rfl rfl) (hp_set (i := 3) hh rfl (by decide) (Md.s_now h21))) rfl rfl rfl rfl rfl (by omega) ?_
    refine x_ldan rfl rfl rfl (h_lt (i := 0) hb (by decide)) ?_
    refine x_getf rfl rfl (h_lt (i := 0) hb (by decide)) (hp_at (i := 0) hh rfl rfl) rfl ?_
    refine x_b 1 (S2 := (65, [some (.ref b), some (.int x1)], [.int 14, .ref (b + 3)], (hput h b (Md.cells b B20)), c, n)) rfl ?_
    obtain ⟨i22, h23, hr⟩ := bd_some hr
    refine x_iald rfl rfl (h_lt (i := 3) hb (by decide)) (hp_at (i := 3) hh rfl rfl) h23 ?_
    refine x_b 2 (S2 := (68, [some (.ref b), some (.int x1)], [.int ((B20.now i22) - 1)], (hput h b (Md.cells b B20)), c, n)) rfl ?_
    cases hr
    rw [kr]
    exact x_ret rfl rfl am_ret_i
  · refine x_zf rfl rfl (decide_eq_false h15) ?_
    refine x_fg (Lq.n (Lq.n Lq.nil)) ?_
    exact j_195_0_j45 hd hb hh hr kr
/-- PebbleProofsModel.addStrategy(I)I -/
def F_195 (B : Md) (x1 : Int32) : Option (Int32 × (Md)) :=
  (some (B.w_thrown 0)).bind fun B1 =>
  (F_172 B1 x1).bind fun v4 =>
  (F_135 B1 v4 1).bind fun (v6, B7) =>
  if ¬ v6 = 0 then
    J_195_0_j45 B7
  else
    (ix 14 93).bind fun i9 =>
    if ¬ (B7.now i9) = 6 then
      J_195_0_j36 B7 x1 0
    else
      J_195_0_j36 B7 x1 1
theorem f_195 {d : Nat} (hd : 3 ≤ d) {scr : ASc} {res : ARe} {c n : Nat} {h : AHp} {b : Nat} (hb : b + 17 ≤ am_SB) (hh : b + 17 ≤ h.length) {B : Md} {x1 : Int32} {o : Int32 × (Md)} (hr : F_195 B x1 = some o) (kr : res = (.inl (some (.int o.1)), hput h b (Md.cells b o.2), c, n)) : Ex d am_M195 scr (0, [some (.ref b), some (.int x1)], [], (hput h b (Md.cells b B)), c, n) res := by
  delta F_195 at hr
  refine x_ldan rfl rfl rfl (h_lt (i := 0) hb (by decide)) ?_
  refine x_b 1 (S2 := (2, [some (.ref b), some (.int x1)], [.int 0, .ref b], (hput h b (Md.cells b B)), c, n)) rfl ?_
  obtain ⟨B1, h2, hr⟩ := bd_some hr
  refine x_putf (H := (hput h b (Md.cells b B1))) rfl rfl (h_lt (i := 0) hb (by decide)) (hp_at (i := 0) hh rfl rfl) ⟨(show 0 < 28 by decide), rfl, rfl, nofun⟩ (hp_set (i := 0) hh rfl (by decide) (Md.s_thrown rfl h2)) ?_
  refine x_ldan rfl rfl rfl (h_lt (i := 0) hb (by decide)) ?_
  refine x_ldan rfl rfl rfl (h_lt (i := 0) hb (by decide)) ?_
  refine x_b 1 (S2 := (8, [some (.ref b), some (.int x1)], [.int x1, .ref b, .ref b], (hput h b (Md.cells b B1)), c, n)) rfl ?_
  obtain ⟨v4, h3, hr⟩ := bd_some hr
  refine x_c0 (m_172 (hp_rg hb hh rfl) h3) rfl rfl rfl rfl (am_recv_v (h_lt (i := 0) hb (by decide)) (hp_at (i := 0) hh rfl rfl) rfl) (by omega) ?_
  refine x_b 1 (S2 := (12, [some (.ref b), some (.int x1)], [.int 1, .int v4, .ref b], (hput h b (Md.cells b B1)), c, n)) rfl ?_
  obtain ⟨⟨v6, B7⟩, h5, hr⟩ := bd_some hr
  refine x_c0 (m_135 hb hh h5) rfl rfl rfl rfl (am_recv_v (h_lt (i := 0) hb (by decide)) (hp_at (i := 0) hh rfl rfl) rfl) (by omega) ?_
  rcases ite_some hr with ⟨h8, hr⟩ | ⟨h8, hr⟩
  · refine x_zt rfl rfl (decide_eq_true h8) ?_
    refine x_fg (Lq.n (Lq.n Lq.nil)) ?_
    exact j_195_0_j45 hd hb hh hr kr
  · refine x_zf rfl rfl (decide_eq_false h8) ?_
    refine x_ldan rfl rfl rfl (h_lt (i := 0) hb (by decide)) ?_
    refine x_ldan rfl rfl rfl (h_lt (i := 0) hb (by decide)) ?_
    refine x_getf rfl rfl (h_lt (i := 0) hb (by decide)) (hp_at (i := 0) hh rfl rfl) rfl ?_
    refine x_b 1 (S2 := (25, [some (.ref b), some (.int x1)], [.int 14, .ref (b + 3), .ref b], (hput h b (Md.cells b B7)), c, n)) rfl ?_
    obtain ⟨i9, h10, hr⟩ := bd_some hr
    refine x_iald rfl rfl (h_lt (i := 3) hb (by decide)) (hp_at (i := 3) hh rfl rfl) h10 ?_
    refine x_b 1 (S2 := (28, [some (.ref b), some (.int x1)], [.int 6, .int (B7.now i9), .ref b], (hput h b (Md.cells b B7)), c, n)) rfl ?_
    rcases ite_some hr with ⟨h11, hr⟩ | ⟨h11, hr⟩
    · refine x_ct rfl rfl (decide_eq_true h11) ?_
      refine x_b 1 (S2 := (36, [some (.ref b), some (.int x1)], [.int 0, .ref b], (hput h b (Md.cells b B7)), c, n)) rfl ?_
      refine x_fg (Lq.s (Lq.s Lq.nil)) ?_
      exact j_195_0_j36 hd hb hh hr kr
    · refine x_cf rfl rfl (decide_eq_false h11) ?_
      refine x_b 2 (S2 := (36, [some (.ref b), some (.int x1)], [.int 1, .ref b], (hput h b (Md.cells b B7)), c, n)) rfl ?_
      refine x_fg (Lq.s (Lq.s Lq.nil)) ?_
      exact j_195_0_j36 hd hb hh hr kr
theorem m_195 {h : AHp} {b : Nat} (hb : b + 17 ≤ am_SB) (hh : b + 17 ≤ h.length) {B : Md} {x1 : Int32} {o : Int32 × (Md)} (hr : F_195 B x1 = some o) : Rn 4 195 [.ref b, .int x1] (hput h b (Md.cells b B)) (.inl (some (.int o.1)), hput h b (Md.cells b o.2), 0, 0) :=
  x_meth (M := am_M195) rfl (show 2 ≤ 2 by decide) (f_195 (Nat.le_refl _) hb hh hr rfl)
def J_196_0_j66 (B : Md) (x1 : Int32) (x2 : Int32) (x3 : Int32) (x4 : Int32) (t0 : Int32) : Option (Int32 × (Md)) :=
  (F_135 B t0 2).bind fun (v14, B15) =>
  if v14 = 0 then
    (F_166 B15).bind fun B18 =>
    (ix (((15 + (13 * x1)) + 1) + x2) 93).bind fun i19 =>
    (some (B18.w_now (upd B18.now i19 x4))).bind fun B21 =>
    (ix (((15 + (13 * x1)) + 7) + x2) 93).bind fun i23 =>
    (some (B21.w_now (upd B21.now i23 x3))).bind fun B25 =>
    some ((B18.now i19), B25)
  else
    some (0, B15)
theorem j_196_0_j66 {d : Nat} (hd : 4 ≤ d) {scr : ASc} {res : ARe} {c n : Nat} {h : AHp} {b : Nat} (hb : b + 17 ≤ am_SB) (hh : b + 17 ≤ h.length) {B : Md} {x1 : Int32} {x2 : Int32} {x3 : Int32} {x4 : Int32} {t0 : Int32} {o : Int32 × (Md)} (hr : J_196_0_j66 B x1 x2 x3 x4 t0 = some o) (kr : res = (.inl (some (.int o.1)), hput h b (Md.cells b o.2), c, n)) : Ex d am_M196 scr (66, [some (.ref b), some (.int x1), some (.int x2), some (.int x3), some (.int x4), none, none], [.int t0, .ref b], (hput h b (Md.cells b B)), c, n) res := by
  delta J_196_0_j66 at hr
  refine x_b 1 (S2 := (67, [some (.ref b), some (.int x1), some (.int x2), some (.int x3), some (.int x4), none, none], [.int 2, .int t0, .ref b], (hput h b (Md.cells b B)), c, n)) rfl ?_
  obtain ⟨⟨v14, B15⟩, h13, hr⟩ := bd_some hr
  refine x_c0 (m_135 hb hh h13) rfl rfl rfl rfl (am_recv_v (h_lt (i := 0) hb (by decide)) (hp_at (i := 0) hh rfl rfl) rfl) (by omega) ?_
  rcases ite_some hr with ⟨h16, hr⟩ | ⟨h16, hr⟩
  · refine x_zt rfl rfl (decide_eq_true h16) ?_
    refine x_ldan rfl rfl rfl (h_lt (i := 0) hb (by decide)) ?_
    obtain ⟨B18, h17, hr⟩ := bd_some hr
    refine x_c0 (m_166 hb hh h17) rfl rfl rfl rfl (am_recv_v (h_lt (i := 0) hb (by decide)) (hp_at (i := 0) hh rfl rfl) rfl) (by omega) ?_
    refine x_b 6 (S2 := (88, [some (.ref b), some (.int x1), some (.int x2), some (.int x3), some (.int x4), some (.int (15 + (13 * x1))), none], [], (hput h b (Md.cells b B18)), c, n)) rfl ?_
    refine x_ldan rfl rfl rfl (h_lt (i := 0) hb (by decide)) ?_
    refine x_getf rfl rfl (h_lt (i := 0) hb (by decide)) (hp_at (i := 0) hh rfl rfl) rfl ?_
    refine x_b 5 (S2 := (98, [some (.ref b), some (.int x1), some (.int x2), some (.int x3), some (.int x4), some (.int (15 + (13 * x1))), none], [.int (((15 + (13 * x1)) + 1) + x2), .ref (b + 3)], (hput h b (Md.cells b B18)), c, n)) rfl ?_
    obtain ⟨i19, h20, hr⟩ := bd_some hr
    refine x_iald rfl rfl (h_lt (i := 3) hb (by decide)) (hp_at (i := 3) hh rfl rfl) h20 ?_
    refine x_b 1 (S2 := (101, [some (.ref b), some (.int x1), some (.int x2), some (.int x3), some (.int x4), some (.int (15 + (13 * x1))), some (.int (B18.now i19))], [], (hput h b (Md.cells b B18)), c, n)) rfl ?_
    refine x_ldan rfl rfl rfl (h_lt (i := 0) hb (by decide)) ?_
    refine x_getf rfl rfl (h_lt (i := 0) hb (by decide)) (hp_at (i := 0) hh rfl rfl) rfl ?_
    refine x_b 6 (S2 := (113, [some (.ref b), some (.int x1), some (.int x2), some (.int x3), some (.int x4), some (.int (15 + (13 * x1))), some (.int (B18.now i19))], [.int x4, .int (((15 + (13 * x1)) + 1) + x2), .ref (b + 3)], (hput h b (Md.cells b B18)), c, n)) rfl ?_
    obtain ⟨B21, h22, hr⟩ := bd_some hr
    refine x_iast (H := (hput h b (Md.cells b B21))) rfl rfl (h_lt (i := 3) hb (by decide)) (hp_at (i := 3) hh rfl rfl) h20 (hp_set (i := 3) hh rfl (by decide) (Md.s_now h22)) ?_
    refine x_ldan rfl rfl rfl (h_lt (i := 0) hb (by decide)) ?_
    refine x_getf rfl rfl (h_lt (i := 0) hb (by decide)) (hp_at (i := 0) hh rfl rfl) rfl ?_
    refine x_b 6 (S2 := (126, [some (.ref b), some (.int x1), some (.int x2), some (.int x3), some (.int x4), some (.int (15 + (13 * x1))), some (.int (B18.now i19))], [.int x3, .int (((15 + (13 * x1)) + 7) + x2), .ref (b + 3)], (hput h b (Md.cells b B21)), c, n)) rfl ?_
    obtain ⟨i23, h24, hr⟩ := bd_some hr
    obtain ⟨B25, h26, hr⟩ := bd_some hr
    refine x_iast (H := (hput h b (Md.cells b B25))) rfl rfl (h_lt (i := 3) hb (by decide)) (hp_at (i := 3) hh rfl rfl) h24 (hp_set (i := 3) hh rfl (by decide) (Md.s_now h26)) ?_
    refine x_b 1 (S2 := (129, [some (.ref b), some (.int x1), some (.int x2), some (.int x3), some (.int x4), some (.int (15 + (13 * x1))), some (.int (B18.now i19))], [.int (B18.now i19)], (hput h b (Md.cells b B25)), c, n)) rfl ?_
    cases hr
    rw [kr]
    exact x_ret rfl rfl am_ret_i
  · refine x_zf rfl rfl (decide_eq_false h16) ?_
    refine x_b 1 (S2 := (74, [some (.ref b), some (.int x1), some (.int x2), some (.int x3), some (.int x4), none, none], [.int 0], (hput h b (Md.cells b B15)), c, n)) rfl ?_
    cases hr
    rw [kr]
    exact x_ret rfl rfl am_ret_i
def J_196_0_j65 (B : Md) (x1 : Int32) (x2 : Int32) (x3 : Int32) (x4 : Int32) : Option (Int32 × (Md)) :=
  J_196_0_j66 B x1 x2 x3 x4 0
theorem j_196_0_j65 {d : Nat} (hd : 4 ≤ d) {scr : ASc} {res : ARe} {c n : Nat} {h : AHp} {b : Nat} (hb : b + 17 ≤ am_SB) (hh : b + 17 ≤ h.length) {B : Md} {x1 : Int32} {x2 : Int32} {x3 : Int32} {x4 : Int32} {o : Int32 × (Md)} (hr : J_196_0_j65 B x1 x2 x3 x4 = some o) (kr : res = (.inl (some (.int o.1)), hput h b (Md.cells b o.2), c, n)) : Ex d am_M196 scr (65, [some (.ref b), some (.int x1), some (.int x2), some (.int x3), some (.int x4), none, none], [.ref b], (hput h b (Md.cells b B)), c, n) res := by
  delta J_196_0_j65 at hr
  refine x_b 1 (S2 := (66, [some (.ref b), some (.int x1), some (.int x2), some (.int x3), some (.int x4), none, none], [.int 0, .ref b], (hput h b (Md.cells b B)), c, n)) rfl ?_
  refine x_fg (Lq.s (Lq.s (Lq.s (Lq.s (Lq.s (Lq.s (Lq.s Lq.nil))))))) ?_
  exact j_196_0_j66 hd hb hh hr kr
def J_196_0_j28 (B : Md) (x1 : Int32) (x2 : Int32) (x3 : Int32) (x4 : Int32) (t0 : Int32) : Option (Int32 × (Md)) :=
  (F_135 B t0 1).bind fun (v7, B8) =>
  if v7 = 0 then
    (F_134 x4.toInt64 0 (64 : Int64)).bind fun v11 =>
    if v11 = 0 then
      J_196_0_j65 B8 x1 x2 x3 x4
    else
      (F_177 B8 x1 0).bind fun v28 =>
      if v28 = x2 then
        J_196_0_j65 B8 x1 x2 x3 x4
      else
        J_196_0_j66 B8 x1 x2 x3 x4 1
  else
    some (0, B8)
theorem j_196_0_j28 {d : Nat} (hd : 4 ≤ d) {scr : ASc} {res : ARe} {c n : Nat} {h : AHp} {b : Nat} (hb : b + 17 ≤ am_SB) (hh : b + 17 ≤ h.length) {B : Md} {x1 : Int32} {x2 : Int32} {x3 : Int32} {x4 : Int32} {t0 : Int32} {o : Int32 × (Md)} (hr : J_196_0_j28 B x1 x2 x3 x4 t0 = some o) (kr : res = (.inl (some (.int o.1)), hput h b (Md.cells b o.2), c, n)) : Ex d am_M196 scr (28, [some (.ref b), some (.int x1), some (.int x2), some (.int x3), some (.int x4), none, none], [.int t0, .ref b], (hput h b (Md.cells b B)), c, n) res := by
  delta J_196_0_j28 at hr
  refine x_b 1 (S2 := (29, [some (.ref b), some (.int x1), some (.int x2), some (.int x3), some (.int x4), none, none], [.int 1, .int t0, .ref b], (hput h b (Md.cells b B)), c, n)) rfl ?_
  obtain ⟨⟨v7, B8⟩, h6, hr⟩ := bd_some hr
  refine x_c0 (m_135 hb hh h6) rfl rfl rfl rfl (am_recv_v (h_lt (i := 0) hb (by decide)) (hp_at (i := 0) hh rfl rfl) rfl) (by omega) ?_
  rcases ite_some hr with ⟨h9, hr⟩ | ⟨h9, hr⟩
  · refine x_zt rfl rfl (decide_eq_true h9) ?_
    refine x_ldan rfl rfl rfl (h_lt (i := 0) hb (by decide)) ?_
    refine x_b 4 (S2 := (45, [some (.ref b), some (.int x1), some (.int x2), some (.int x3), some (.int x4), none, none], [.long (64 : Int64), .long 0, .long x4.toInt64, .ref b], (hput h b (Md.cells b B8)), c, n)) rfl ?_
    obtain ⟨v11, h10, hr⟩ := bd_some hr
    refine x_c0 (m_134 h10) rfl rfl rfl rfl rfl (by omega) ?_
    rcases ite_some hr with ⟨h12, hr⟩ | ⟨h12, hr⟩
    · refine x_zt rfl rfl (decide_eq_true h12) ?_
      refine x_fg (Lq.s (Lq.s (Lq.s (Lq.s (Lq.s (Lq.s (Lq.s Lq.nil))))))) ?_
      exact j_196_0_j65 hd hb hh hr kr
    · refine x_zf rfl rfl (decide_eq_false h12) ?_
      refine x_ldan rfl rfl rfl (h_lt (i := 0) hb (by decide)) ?_
      refine x_b 2 (S2 := (54, [some (.ref b), some (.int x1), some (.int x2), some (.int x3), some (.int x4), none, none], [.int 0, .int x1, .ref b, .ref b], (hput h b (Md.cells b B8)), c, n)) rfl ?_
      obtain ⟨v28, h27, hr⟩ := bd_some hr
      refine x_c0 (m_177 (hp_rg hb hh rfl) h27) rfl rfl rfl rfl (am_recv_v (h_lt (i := 0) hb (by decide)) (hp_at (i := 0) hh rfl rfl) rfl) (by omega) ?_
      refine x_b 1 (S2 := (58, [some (.ref b), some (.int x1), some (.int x2), some (.int x3), some (.int x4), none, none], [.int x2, .int v28, .ref b], (hput h b (Md.cells b B8)), c, n)) rfl ?_
      rcases ite_some hr with ⟨h29, hr⟩ | ⟨h29, hr⟩
      · refine x_ct rfl rfl (decide_eq_true h29) ?_
        refine x_fg (Lq.s (Lq.s (Lq.s (Lq.s (Lq.s (Lq.s (Lq.s Lq.nil))))))) ?_
        exact j_196_0_j65 hd hb hh hr kr
      · refine x_cf rfl rfl (decide_eq_false h29) ?_
        refine x_b 2 (S2 := (66, [some (.ref b), some (.int x1), some (.int x2), some (.int x3), some (.int x4), none, none], [.int 1, .ref b], (hput h b (Md.cells b B8)), c, n)) rfl ?_
        refine x_fg (Lq.s (Lq.s (Lq.s (Lq.s (Lq.s (Lq.s (Lq.s Lq.nil))))))) ?_
        exact j_196_0_j66 hd hb hh hr kr
  · refine x_zf rfl rfl (decide_eq_false h9) ?_
    refine x_b 1 (S2 := (36, [some (.ref b), some (.int x1), some (.int x2), some (.int x3), some (.int x4), none, none], [.int 0], (hput h b (Md.cells b B8)), c, n)) rfl ?_
    cases hr
    rw [kr]
    exact x_ret rfl rfl am_ret_i
def J_196_0_j27 (B : Md) (x1 : Int32) (x2 : Int32) (x3 : Int32) (x4 : Int32) : Option (Int32 × (Md)) :=
  J_196_0_j28 B x1 x2 x3 x4 0
theorem j_196_0_j27 {d : Nat} (hd : 4 ≤ d) {scr : ASc} {res : ARe} {c n : Nat} {h : AHp} {b : Nat} (hb : b + 17 ≤ am_SB) (hh : b + 17 ≤ h.length) {B : Md} {x1 : Int32} {x2 : Int32} {x3 : Int32} {x4 : Int32} {o : Int32 × (Md)} (hr : J_196_0_j27 B x1 x2 x3 x4 = some o) (kr : res = (.inl (some (.int o.1)), hput h b (Md.cells b o.2), c, n)) : Ex d am_M196 scr (27, [some (.ref b), some (.int x1), some (.int x2), some (.int x3), some (.int x4), none, none], [.ref b], (hput h b (Md.cells b B)), c, n) res := by
  delta J_196_0_j27 at hr
  refine x_b 1 (S2 := (28, [some (.ref b), some (.int x1), some (.int x2), some (.int x3), some (.int x4), none, none], [.int 0, .ref b], (hput h b (Md.cells b B)), c, n)) rfl ?_
  refine x_fg (Lq.s (Lq.s (Lq.s (Lq.s (Lq.s (Lq.s (Lq.s Lq.nil))))))) ?_
  exact j_196_0_j28 hd hb hh hr kr
/-- PebbleProofsModel.weigh(IIII)I -/
def F_196 (B : Md) (x1 : Int32) (x2 : Int32) (x3 : Int32) (x4 : Int32) : Option (Int32 × (Md)) :=
  (some (B.w_thrown 0)).bind fun B1 =>
  (F_174 B1 x1).bind fun v4 =>
  if v4 = 0 then
    J_196_0_j27 B1 x1 x2 x3 x4
  else
    (F_173 B1 x2 x3).bind fun v31 =>
    if v31 = 0 then
      J_196_0_j27 B1 x1 x2 x3 x4
    else
      J_196_0_j28 B1 x1 x2 x3 x4 1
theorem f_196 {d : Nat} (hd : 4 ≤ d) {scr : ASc} {res : ARe} {c n : Nat} {h : AHp} {b : Nat} (hb : b + 17 ≤ am_SB) (hh : b + 17 ≤ h.length) {B : Md} {x1 : Int32} {x2 : Int32} {x3 : Int32} {x4 : Int32} {o : Int32 × (Md)} (hr : F_196 B x1 x2 x3 x4 = some o) (kr : res = (.inl (some (.int o.1)), hput h b (Md.cells b o.2), c, n)) : Ex d am_M196 scr (0, [some (.ref b), some (.int x1), some (.int x2), some (.int x3), some (.int x4), none, none], [], (hput h b (Md.cells b B)), c, n) res := by
  delta F_196 at hr
  refine x_ldan rfl rfl rfl (h_lt (i := 0) hb (by decide)) ?_
  refine x_b 1 (S2 := (2, [some (.ref b), some (.int x1), some (.int x2), some (.int x3), some (.int x4), none, none], [.int 0, .ref b], (hput h b (Md.cells b B)), c, n)) rfl ?_
  obtain ⟨B1, h2, hr⟩ := bd_some hr
  refine x_putf (H := (hput h b (Md.cells b B1))) rfl rfl (h_lt (i := 0) hb (by decide)) (hp_at (i := 0) hh rfl rfl) ⟨(show 0 < 28 by decide), rfl, rfl, nofun⟩ (hp_set (i := 0) hh rfl (by decide) (Md.s_thrown rfl h2)) ?_
  refine x_ldan rfl rfl rfl (h_lt (i := 0) hb (by decide)) ?_
  refine x_ldan rfl rfl rfl (h_lt (i := 0) hb (by decide)) ?_
  refine x_b 1 (S2 := (8, [some (.ref b), some (.int x1), some (.int x2), some (.int x3), some (.int x4), none, none], [.int x1, .ref b, .ref b], (hput h b (Md.cells b B1)), c, n)) rfl ?_
  obtain ⟨v4, h3, hr⟩ := bd_some hr
  refine x_c0 (m_174 (hp_rg hb hh rfl) h3) rfl rfl rfl rfl (am_recv_v (h_lt (i := 0) hb (by decide)) (hp_at (i := 0) hh rfl rfl) rfl) (by omega) ?_
  rcases ite_some hr with ⟨h5, hr⟩ | ⟨h5, hr⟩
  · refine x_zt rfl rfl (decide_eq_true h5) ?_
    refine x_fg (Lq.s (Lq.s (Lq.s (Lq.s (Lq.s (Lq.s (Lq.s Lq.nil))))))) ?_
    exact j_196_0_j27 hd hb hh hr kr
  · refine x_zf rfl rfl (decide_eq_false h5) ?_
    refine x_ldan rfl rfl rfl (h_lt (i := 0) hb (by decide)) ?_
    refine x_b 2 (S2 := (17, [some (.ref b), some (.int x1), some (.int x2), some (.int x3), some (.int x4), none, none], [.int x3, .int x2, .ref b, .ref b], (hput h b (Md.cells b B1)), c, n)) rfl ?_
    obtain ⟨v31, h30, hr⟩ := bd_some hr
    refine x_c0 (m_173 (hp_rg hb hh rfl) h30) rfl rfl rfl rfl (am_recv_v (h_lt (i := 0) hb (by decide)) (hp_at (i := 0) hh rfl rfl) rfl) (by omega) ?_
    rcases ite_some hr with ⟨h32, hr⟩ | ⟨h32, hr⟩
    · refine x_zt rfl rfl (decide_eq_true h32) ?_
      refine x_fg (Lq.s (Lq.s (Lq.s (Lq.s (Lq.s (Lq.s (Lq.s Lq.nil))))))) ?_
      exact j_196_0_j27 hd hb hh hr kr
    · refine x_zf rfl rfl (decide_eq_false h32) ?_
      refine x_b 2 (S2 := (28, [some (.ref b), some (.int x1), some (.int x2), some (.int x3), some (.int x4), none, none], [.int 1, .ref b], (hput h b (Md.cells b B1)), c, n)) rfl ?_
      refine x_fg (Lq.s (Lq.s (Lq.s (Lq.s (Lq.s (Lq.s (Lq.s Lq.nil))))))) ?_
      exact j_196_0_j28 hd hb hh hr kr
theorem m_196 {h : AHp} {b : Nat} (hb : b + 17 ≤ am_SB) (hh : b + 17 ≤ h.length) {B : Md} {x1 : Int32} {x2 : Int32} {x3 : Int32} {x4 : Int32} {o : Int32 × (Md)} (hr : F_196 B x1 x2 x3 x4 = some o) : Rn 5 196 [.ref b, .int x1, .int x2, .int x3, .int x4] (hput h b (Md.cells b B)) (.inl (some (.int o.1)), hput h b (Md.cells b o.2), 0, 0) :=
  x_meth (M := am_M196) rfl (show 5 ≤ 7 by decide) (f_196 (Nat.le_refl _) hb hh hr rfl)
abbrev P_197_43 (h : AHp) (b : Nat) (c n : Nat)  (s : Int32 × (Md)) : ASt := (43, [some (.ref b), none, some (.int s.1)], [], (hput h b (Md.cells b s.2)), c, n)
abbrev PX_197_43 (h : AHp) (b : Nat) (c n : Nat)  (s : (Md)) : ASt := (81, [some (.ref b), none, none], [], (hput h b (Md.cells b s)), c, n)
def G_197_43  (s : Int32 × (Md)) : Option ((Int32 × (Md)) ⊕ ((Md))) := 
  match s with
  | (x2, B) =>
    (ix 14 93).bind fun i15 =>
    if (15 + (13 * (B.now i15))) ≤ x2 then
      some (.inr B)
    else
      (ix (x2 + 13) 93).bind fun i18 =>
      (ix x2 93).bind fun i20 =>
      (some (B.w_now (upd B.now i20 (B.now i18)))).bind fun B22 =>
      some (.inl ((x2 + 1), B22))
theorem g_197_43 {d : Nat} (hd : 3 ≤ d) {scr : ASc} {res : ARe} {c n : Nat} {h : AHp} {b : Nat} (hb : b + 17 ≤ am_SB) (hh : b + 17 ≤ h.length)  {s : Int32 × (Md)} {o : (Int32 × (Md)) ⊕ ((Md))} (hr : G_197_43  s = some o) (ka : ∀ s, o = .inl s → Ex d am_M197 scr (P_197_43 h b c n  s) res) (kx : ∀ s, o = .inr s → Ex d am_M197 scr (PX_197_43 h b c n  s) res) : Ex d am_M197 scr (P_197_43 h b c n  s) res := by
  obtain ⟨x2, B⟩ := s
  delta G_197_43 at hr
  show Ex d am_M197 scr (43, [some (.ref b), none, some (.int x2)], [], (hput h b (Md.cells b B)), c, n) res
  refine x_b 3 (S2 := (48, [some (.ref b), none, some (.int x2)], [.int 13, .int 15, .int x2], (hput h b (Md.cells b B)), c, n)) rfl ?_
  refine x_ldan rfl rfl rfl (h_lt (i := 0) hb (by decide)) ?_
  refine x_getf rfl rfl (h_lt (i := 0) hb (by decide)) (hp_at (i := 0) hh rfl rfl) rfl ?_
  refine x_b 1 (S2 := (54, [some (.ref b), none, some (.int x2)], [.int 14, .ref (b + 3), .int 13, .int 15, .int x2], (hput h b (Md.cells b B)), c, n)) rfl ?_
  obtain ⟨i15, h16, hr⟩ := bd_some hr
  refine x_iald rfl rfl (h_lt (i := 3) hb (by decide)) (hp_at (i := 3) hh rfl rfl) h16 ?_
  refine x_b 2 (S2 := (57, [some (.ref b), none, some (.int x2)], [.int (15 + (13 * (B.now i15))), .int x2], (hput h b (Md.cells b B)), c, n)) rfl ?_
  rcases ite_some hr with ⟨h17, hr⟩ | ⟨h17, hr⟩
  · refine x_ct rfl rfl (decide_eq_true h17) ?_
    refine x_fg (Lq.s (Lq.s (Lq.n Lq.nil))) ?_
    exact kx B (Option.some.inj hr).symm
  · refine x_cf rfl rfl (decide_eq_false h17) ?_
    refine x_ldan rfl rfl rfl (h_lt (i := 0) hb (by decide)) ?_
    refine x_getf rfl rfl (h_lt (i := 0) hb (by decide)) (hp_at (i := 0) hh rfl rfl) rfl ?_
    refine x_b 1 (S2 := (65, [some (.ref b), none, some (.int x2)], [.int x2, .ref (b + 3)], (hput h b (Md.cells b B)), c, n)) rfl ?_
    refine x_ldan rfl rfl rfl (h_lt (i := 0) hb (by decide)) ?_
    refine x_getf rfl rfl (h_lt (i := 0) hb (by decide)) (hp_at (i := 0) hh rfl rfl) rfl ?_
    refine x_b 3 (S2 := (73, [some (.ref b), none, some (.int x2)], [.int (x2 + 13), .ref (b + 3), .int x2, .ref (b + 3)], (hput h b (Md.cells b B)), c, n)) rfl ?_
    obtain ⟨i18, h19, hr⟩ := bd_some hr
    refine x_iald rfl rfl (h_lt (i := 3) hb (by decide)) (hp_at (i := 3) hh rfl rfl) h19 ?_
    obtain ⟨i20, h21, hr⟩ := bd_some hr
    obtain ⟨B22, h23, hr⟩ := bd_some hr
    refine x_iast (H := (hput h b (Md.cells b B22))) rfl rfl (h_lt (i := 3) hb (by decide)) (hp_at (i := 3) hh rfl rfl) h21 (hp_set (i := 3) hh rfl (by decide) (Md.s_now h23)) ?_
    refine x_b 2 (S2 := (43, [some (.ref b), none, some (.int (x2 + 1))], [], (hput h b (Md.cells b B22)), c, n)) rfl ?_
    refine x_fg (Lq.s (Lq.s (Lq.s Lq.nil))) ?_
    exact ka ((x2 + 1), B22) (Option.some.inj hr).symm
/-- PebbleProofsModel.dropStrategy(I)I -/
def F_197 (B : Md) (x1 : Int32) : Option (Int32 × (Md)) :=
  (some (B.w_thrown 0)).bind fun B1 =>
  (F_174 B1 x1).bind fun v4 =>
  (F_135 B1 v4 1).bind fun (v6, B7) =>
  if v6 = 0 then
    (F_166 B7).bind fun B10 =>
    (ix 14 93).bind fun i11 =>
    (some (B10.w_now (upd B10.now i11 ((B10.now i11) - 1)))).bind fun B13 =>
    (lw (G_197_43 ) 200000 ((15 + (13 * x1)), B13)).bind fun B25 =>
    (ix 14 93).bind fun i27 =>
    some ((B25.now i27), B25)
  else
    some (0, B7)
theorem f_197 {d : Nat} (hd : 3 ≤ d) {scr : ASc} {res : ARe} {c n : Nat} {h : AHp} {b : Nat} (hb : b + 17 ≤ am_SB) (hh : b + 17 ≤ h.length) {B : Md} {x1 : Int32} {o : Int32 × (Md)} (hr : F_197 B x1 = some o) (kr : res = (.inl (some (.int o.1)), hput h b (Md.cells b o.2), c, n)) : Ex d am_M197 scr (0, [some (.ref b), some (.int x1), none], [], (hput h b (Md.cells b B)), c, n) res := by
  delta F_197 at hr
  refine x_ldan rfl rfl rfl (h_lt (i := 0) hb (by decide)) ?_
  refine x_b 1 (S2 := (2, [some (.ref b), some (.int x1), none], [.int 0, .ref b], (hput h b (Md.cells b B)), c, n)) rfl ?_
  obtain ⟨B1, h2, hr⟩ := bd_some hr
  refine x_putf (H := (hput h b (Md.cells b B1))) rfl rfl (h_lt (i := 0) hb (by decide)) (hp_at (i := 0) hh rfl rfl) ⟨(show 0 < 28 by decide), rfl, rfl, nofun⟩ (hp_set (i := 0) hh rfl (by decide) (Md.s_thrown rfl h2)) ?_
  refine x_ldan rfl rfl rfl (h_lt (i := 0) hb (by decide)) ?_
  refine x_ldan rfl rfl rfl (h_lt (i := 0) hb (by decide)) ?_
  refine x_b 1 (S2 := (8, [some (.ref b), some (.int x1), none], [.int x1, .ref b, .ref b], (hput h b (Md.cells b B1)), c, n)) rfl ?_
  obtain ⟨v4, h3, hr⟩ := bd_some hr
  refine x_c0 (m_174 (hp_rg hb hh rfl) h3) rfl rfl rfl rfl (am_recv_v (h_lt (i := 0) hb (by decide)) (hp_at (i := 0) hh rfl rfl) rfl) (by omega) ?_
  refine x_b 1 (S2 := (12, [some (.ref b), some (.int x1), none], [.int 1, .int v4, .ref b], (hput h b (Md.cells b B1)), c, n)) rfl ?_
  obtain ⟨⟨v6, B7⟩, h5, hr⟩ := bd_some hr
  refine x_c0 (m_135 hb hh h5) rfl rfl rfl rfl (am_recv_v (h_lt (i := 0) hb (by decide)) (hp_at (i := 0) hh rfl rfl) rfl) (by omega) ?_
  rcases ite_some hr with ⟨h8, hr⟩ | ⟨h8, hr⟩
  · refine x_zt rfl rfl (decide_eq_true h8) ?_
    refine x_ldan rfl rfl rfl (h_lt (i := 0) hb (by decide)) ?_
    obtain ⟨B10, h9, hr⟩ := bd_some hr
    refine x_c0 (m_166 hb hh h9) rfl rfl rfl rfl (am_recv_v (h_lt (i := 0) hb (by decide)) (hp_at (i := 0) hh rfl rfl) rfl) (by omega) ?_
    refine x_ldan rfl rfl rfl (h_lt (i := 0) hb (by decide)) ?_
    refine x_getf rfl rfl (h_lt (i := 0) hb (by decide)) (hp_at (i := 0) hh rfl rfl) rfl ?_
    refine x_b 2 (S2 := (31, [some (.ref b), some (.int x1), none], [.int 14, .ref (b + 3), .int 14, .ref (b + 3)], (hput h b (Md.cells b B10)), c, n)) rfl ?_
    obtain ⟨i11, h12, hr⟩ := bd_some hr
    refine x_iald rfl rfl (h_lt (i := 3) hb (by decide)) (hp_at (i := 3) hh rfl rfl) h12 ?_
    refine x_b 2 (S2 := (34, [some (.ref b), some (.int x1), none], [.int ((B10.now i11) - 1), .int 14, .ref (b + 3)], (hput h b (Md.cells b B10)), c, n)) rfl ?_
    obtain ⟨B13, h14, hr⟩ := bd_some hr
    refine x_iast (H := (hput h b (Md.cells b B13))) rfl rfl (h_lt (i := 3) hb (by decide)) (hp_at (i := 3) hh rfl rfl) h12 (hp_set (i := 3) hh rfl (by decide) (Md.s_now h14)) ?_
    refine x_b 6 (S2 := (43, [some (.ref b), some (.int x1), some (.int (15 + (13 * x1)))], [], (hput h b (Md.cells b B13)), c, n)) rfl ?_
    refine x_fg (Lq.s (Lq.n (Lq.s Lq.nil))) ?_
    obtain ⟨B25, h24, hr⟩ := bd_some hr
    refine x_lw (P := P_197_43 h b c n ) (Q := fun x => Ex d am_M197 scr (PX_197_43 h b c n  x) res) (fun s o h1 ka kx => g_197_43 hd hb hh h1 ka kx) _ ((15 + (13 * x1)), B13) _ h24 ?_
    show Ex d am_M197 scr (81, [some (.ref b), none, none], [], (hput h b (Md.cells b B25)), c, n) res
    refine x_ldan rfl rfl rfl (h_lt (i := 0) hb (by decide)) ?_
    refine x_getf rfl rfl (h_lt (i := 0) hb (by decide)) (hp_at (i := 0) hh rfl rfl) rfl ?_
    refine x_b 1 (S2 := (87, [some (.ref b), none, none], [.int 14, .ref (b + 3)], (hput h b (Md.cells b B25)), c, n)) rfl ?_
    obtain ⟨i27, h28, hr⟩ := bd_some hr
    refine x_iald rfl rfl (h_lt (i := 3) hb (by decide)) (hp_at (i := 3) hh rfl rfl) h28 ?_
    cases hr
    rw [kr]
    exact x_ret rfl rfl am_ret_i
  · refine x_zf rfl rfl (decide_eq_false h8) ?_
    refine x_b 1 (S2 := (19, [some (.ref b), some (.int x1), none], [.int 0], (hput h b (Md.cells b B7)), c, n)) rfl ?_
    cases hr
    rw [kr]
    exact x_ret rfl rfl am_ret_i
theorem m_197 {h : AHp} {b : Nat} (hb : b + 17 ≤ am_SB) (hh : b + 17 ≤ h.length) {B : Md} {x1 : Int32} {o : Int32 × (Md)} (hr : F_197 B x1 = some o) : Rn 4 197 [.ref b, .int x1] (hput h b (Md.cells b B)) (.inl (some (.int o.1)), hput h b (Md.cells b o.2), 0, 0) :=
  x_meth (M := am_M197) rfl (show 2 ≤ 3 by decide) (f_197 (Nat.le_refl _) hb hh hr rfl)
abbrev P_198_8 (h : AHp) (b : Nat) (c n : Nat) (B : Md) (s : Int32 × Int32) : ASt := (8, [some (.ref b), some (.int s.1), some (.int s.2), none], [], (hput h b (Md.cells b B)), c, n)
abbrev PX_198_8 (h : AHp) (b : Nat) (c n : Nat) (B : Md) (s : Int32) : ASt := (53, [none, some (.int s), none, none], [], (hput h b (Md.cells b B)), c, n)
abbrev P_198_20 (h : AHp) (b : Nat) (c n : Nat) (B : Md) (x2 : Int32) (s : Int32 × Int32) : ASt := (20, [some (.ref b), some (.int s.1), some (.int x2), some (.int s.2)], [], (hput h b (Md.cells b B)), c, n)
abbrev PX_198_20 (h : AHp) (b : Nat) (c n : Nat) (B : Md) (x2 : Int32) (s : Int32) : ASt := (47, [some (.ref b), some (.int s), some (.int x2), none], [], (hput h b (Md.cells b B)), c, n)
def G_198_20 (B : Md) (x2 : Int32) (s : Int32 × Int32) : Option ((Int32 × Int32) ⊕ (Int32)) := 
  match s with
  | (x1, x3) =>
    (ix 0 93).bind fun i6 =>
    if (B.now i6) ≤ x3 then
      some (.inr x1)
    else
      (F_183 B x2 x3).bind fun v10 =>
      some (.inl ((imx x1 v10), (x3 + 1)))
theorem g_198_20 {d : Nat} (hd : 4 ≤ d) {scr : ASc} {res : ARe} {c n : Nat} {h : AHp} {b : Nat} (hb : b + 17 ≤ am_SB) (hh : b + 17 ≤ h.length) {B : Md} {x2 : Int32} {s : Int32 × Int32} {o : (Int32 × Int32) ⊕ (Int32)} (hr : G_198_20 B x2 s = some o) (ka : ∀ s, o = .inl s → Ex d am_M198 scr (P_198_20 h b c n B x2 s) res) (kx : ∀ s, o = .inr s → Ex d am_M198 scr (PX_198_20 h b c n B x2 s) res) : Ex d am_M198 scr (P_198_20 h b c n B x2 s) res := by
  obtain ⟨x1, x3⟩ := s
  delta G_198_20 at hr
  show Ex d am_M198 scr (20, [some (.ref b), some (.int x1), some (.int x2), some (.int x3)], [], (hput h b (Md.cells b B)), c, n) res
  refine x_b 1 (S2 := (21, [some (.ref b), some (.int x1), some (.int x2), some (.int x3)], [.int x3], (hput h b (Md.cells b B)), c, n)) rfl ?_
  refine x_ldan rfl rfl rfl (h_lt (i := 0) hb (by decide)) ?_
  refine x_getf rfl rfl (h_lt (i := 0) hb (by decide)) (hp_at (i := 0) hh rfl rfl) rfl ?_
  refine x_b 1 (S2 := (26, [some (.ref b), some (.int x1), some (.int x2), some (.int x3)], [.int 0, .ref (b + 3), .int x3], (hput h b (Md.cells b B)), c, n)) rfl ?_
  obtain ⟨i6, h7, hr⟩ := bd_some hr
  refine x_iald rfl rfl (h_lt (i := 3) hb (by decide)) (hp_at (i := 3) hh rfl rfl) h7 ?_
  rcases ite_some hr with ⟨h8, hr⟩ | ⟨h8, hr⟩
  · refine x_ct rfl rfl (decide_eq_true h8) ?_
    refine x_fg (Lq.s (Lq.s (Lq.s (Lq.n Lq.nil)))) ?_
    exact kx x1 (Option.some.inj hr).symm
  · refine x_cf rfl rfl (decide_eq_false h8) ?_
    refine x_b 1 (S2 := (31, [some (.ref b), some (.int x1), some (.int x2), some (.int x3)], [.int x1], (hput h b (Md.cells b B)), c, n)) rfl ?_
    refine x_ldan rfl rfl rfl (h_lt (i := 0) hb (by decide)) ?_
    refine x_b 2 (S2 := (34, [some (.ref b), some (.int x1), some (.int x2), some (.int x3)], [.int x3, .int x2, .ref b, .int x1], (hput h b (Md.cells b B)), c, n)) rfl ?_
    obtain ⟨v10, h9, hr⟩ := bd_some hr
    refine x_c0 (m_183 (hp_rg hb hh rfl) h9) rfl rfl rfl rfl (am_recv_v (h_lt (i := 0) hb (by decide)) (hp_at (i := 0) hh rfl rfl) rfl) (by omega) ?_
    refine x_b 4 (S2 := (20, [some (.ref b), some (.int (imx x1 v10)), some (.int x2), some (.int (x3 + 1))], [], (hput h b (Md.cells b B)), c, n)) rfl ?_
    refine x_fg (Lq.s (Lq.s (Lq.s (Lq.s Lq.nil)))) ?_
    exact ka ((imx x1 v10), (x3 + 1)) (Option.some.inj hr).symm
def G_198_8 (B : Md) (s : Int32 × Int32) : Option ((Int32 × Int32) ⊕ (Int32)) := 
  match s with
  | (x1, x2) =>
    (ix 0 93).bind fun i3 =>
    if (B.now i3) ≤ x2 then
      some (.inr x1)
    else
      (lw (G_198_20 B x2) 200000 (x1, 0)).bind fun v12 =>
      some (.inl (v12, (x2 + 1)))
theorem g_198_8 {d : Nat} (hd : 4 ≤ d) {scr : ASc} {res : ARe} {c n : Nat} {h : AHp} {b : Nat} (hb : b + 17 ≤ am_SB) (hh : b + 17 ≤ h.length) {B : Md} {s : Int32 × Int32} {o : (Int32 × Int32) ⊕ (Int32)} (hr : G_198_8 B s = some o) (ka : ∀ s, o = .inl s → Ex d am_M198 scr (P_198_8 h b c n B s) res) (kx : ∀ s, o = .inr s → Ex d am_M198 scr (PX_198_8 h b c n B s) res) : Ex d am_M198 scr (P_198_8 h b c n B s) res := by
  obtain ⟨x1, x2⟩ := s
  delta G_198_8 at hr
  show Ex d am_M198 scr (8, [some (.ref b), some (.int x1), some (.int x2), none], [], (hput h b (Md.cells b B)), c, n) res
  refine x_b 1 (S2 := (9, [some (.ref b), some (.int x1), some (.int x2), none], [.int x2], (hput h b (Md.cells b B)), c, n)) rfl ?_
  refine x_ldan rfl rfl rfl (h_lt (i := 0) hb (by decide)) ?_
  refine x_getf rfl rfl (h_lt (i := 0) hb (by decide)) (hp_at (i := 0) hh rfl rfl) rfl ?_
  refine x_b 1 (S2 := (14, [some (.ref b), some (.int x1), some (.int x2), none], [.int 0, .ref (b + 3), .int x2], (hput h b (Md.cells b B)), c, n)) rfl ?_
  obtain ⟨i3, h4, hr⟩ := bd_some hr
  refine x_iald rfl rfl (h_lt (i := 3) hb (by decide)) (hp_at (i := 3) hh rfl rfl) h4 ?_
  rcases ite_some hr with ⟨h5, hr⟩ | ⟨h5, hr⟩
  · refine x_ct rfl rfl (decide_eq_true h5) ?_
    refine x_fg (Lq.n (Lq.s (Lq.n (Lq.s Lq.nil)))) ?_
    exact kx x1 (Option.some.inj hr).symm
  · refine x_cf rfl rfl (decide_eq_false h5) ?_
    refine x_b 2 (S2 := (20, [some (.ref b), some (.int x1), some (.int x2), some (.int 0)], [], (hput h b (Md.cells b B)), c, n)) rfl ?_
    refine x_fg (Lq.s (Lq.s (Lq.s (Lq.s Lq.nil)))) ?_
    obtain ⟨v12, h11, hr⟩ := bd_some hr
    refine x_lw (P := P_198_20 h b c n B x2) (Q := fun x => Ex d am_M198 scr (PX_198_20 h b c n B x2 x) res) (fun s o h1 ka kx => g_198_20 hd hb hh h1 ka kx) _ (x1, 0) _ h11 ?_
    show Ex d am_M198 scr (47, [some (.ref b), some (.int v12), some (.int x2), none], [], (hput h b (Md.cells b B)), c, n) res
    refine x_b 2 (S2 := (8, [some (.ref b), some (.int v12), some (.int (x2 + 1)), none], [], (hput h b (Md.cells b B)), c, n)) rfl ?_
    refine x_fg (Lq.s (Lq.s (Lq.s (Lq.s Lq.nil)))) ?_
    exact ka (v12, (x2 + 1)) (Option.some.inj hr).symm
/-- PebbleProofsModel.diameter()I -/
def F_198 (B : Md) : Option (Int32 × (Md)) :=
  (F_182 B).bind fun B2 =>
  (lw (G_198_8 B2) 200000 (0, 0)).bind fun v15 =>
  some (v15, B2)
theorem f_198 {d : Nat} (hd : 4 ≤ d) {scr : ASc} {res : ARe} {c n : Nat} {h : AHp} {b : Nat} (hb : b + 17 ≤ am_SB) (hh : b + 17 ≤ h.length) {B : Md} {o : Int32 × (Md)} (hr : F_198 B = some o) (kr : res = (.inl (some (.int o.1)), hput h b (Md.cells b o.2), c, n)) : Ex d am_M198 scr (0, [some (.ref b), none, none, none], [], (hput h b (Md.cells b B)), c, n) res := by
  delta F_198 at hr
  refine x_ldan rfl rfl rfl (h_lt (i := 0) hb (by decide)) ?_
  obtain ⟨B2, h1, hr⟩ := bd_some hr
  refine x_c0 (m_182 hb hh h1) rfl rfl rfl rfl (am_recv_v (h_lt (i := 0) hb (by decide)) (hp_at (i := 0) hh rfl rfl) rfl) (by omega) ?_
  refine x_b 4 (S2 := (8, [some (.ref b), some (.int 0), some (.int 0), none], [], (hput h b (Md.cells b B2)), c, n)) rfl ?_
  refine x_fg (Lq.s (Lq.s (Lq.s (Lq.s Lq.nil)))) ?_
  obtain ⟨v15, h14, hr⟩ := bd_some hr
  refine x_lw (P := P_198_8 h b c n B2) (Q := fun x => Ex d am_M198 scr (PX_198_8 h b c n B2 x) res) (fun s o h1 ka kx => g_198_8 hd hb hh h1 ka kx) _ (0, 0) _ h14 ?_
  show Ex d am_M198 scr (53, [none, some (.int v15), none, none], [], (hput h b (Md.cells b B2)), c, n) res
  refine x_b 1 (S2 := (54, [none, some (.int v15), none, none], [.int v15], (hput h b (Md.cells b B2)), c, n)) rfl ?_
  cases hr
  rw [kr]
  exact x_ret rfl rfl am_ret_i
theorem m_198 {h : AHp} {b : Nat} (hb : b + 17 ≤ am_SB) (hh : b + 17 ≤ h.length) {B : Md} {o : Int32 × (Md)} (hr : F_198 B = some o) : Rn 5 198 [.ref b] (hput h b (Md.cells b B)) (.inl (some (.int o.1)), hput h b (Md.cells b o.2), 0, 0) :=
  x_meth (M := am_M198) rfl (show 1 ≤ 4 by decide) (f_198 (Nat.le_refl _) hb hh hr rfl)
/-- PebbleProofsModel.count(I)I -/
def F_199 (B : Md) (x1 : Int32) : Option (Int32 × (Md)) :=
  (some (B.w_thrown 0)).bind fun B1 =>
  if x1 = 0 then
    (ix 0 93).bind fun i4 =>
    some ((B1.now i4), B1)
  else if x1 = 1 then
    (F_178 B1).bind fun v8 =>
    some (v8, B1)
  else if x1 = 2 then
    (F_179 B1).bind fun v11 =>
    some (v11, B1)
  else if x1 = 3 then
    (ix 13 93).bind fun i13 =>
    some ((B1.now i13), B1)
  else if x1 = 4 then
    (ix 14 93).bind fun i16 =>
    some ((B1.now i16), B1)
  else if x1 = 5 then
    (F_198 B1).bind fun (v20, B21) =>
    some (v20, B21)
  else 
    (some (B1.w_thrown 1)).bind fun B22 =>
    some (0, B22)
theorem f_199 {d : Nat} (hd : 5 ≤ d) {scr : ASc} {res : ARe} {c n : Nat} {h : AHp} {b : Nat} (hb : b + 17 ≤ am_SB) (hh : b + 17 ≤ h.length) {B : Md} {x1 : Int32} {o : Int32 × (Md)} (hr : F_199 B x1 = some o) (kr : res = (.inl (some (.int o.1)), hput h b (Md.cells b o.2), c, n)) : Ex d am_M199 scr (0, [some (.ref b), some (.int x1)], [], (hput h b (Md.cells b B)), c, n) res := by
  delta F_199 at hr
  refine x_ldan rfl rfl rfl (h_lt (i := 0) hb (by decide)) ?_
  refine x_b 1 (S2 := (2, [some (.ref b), some (.int x1)], [.int 0, .ref b], (hput h b (Md.cells b B)), c, n)) rfl ?_
  obtain ⟨B1, h2, hr⟩ := bd_some hr
  refine x_putf (H := (hput h b (Md.cells b B1))) rfl rfl (h_lt (i := 0) hb (by decide)) (hp_at (i := 0) hh rfl rfl) ⟨(show 0 < 28 by decide), rfl, rfl, nofun⟩ (hp_set (i := 0) hh rfl (by decide) (Md.s_thrown rfl h2)) ?_
  refine x_b 1 (S2 := (6, [some (.ref b), some (.int x1)], [.int x1], (hput h b (Md.cells b B1)), c, n)) rfl ?_
  rcases ite_some hr with ⟨h3, hr⟩ | ⟨h3, hr⟩
  · refine x_tswk rfl rfl h3 rfl ?_
    refine x_ldan rfl rfl rfl (h_lt (i := 0) hb (by decide)) ?_
    refine x_getf rfl rfl (h_lt (i := 0) hb (by decide)) (hp_at (i := 0) hh rfl rfl) rfl ?_
    refine x_b 1 (S2 := (49, [some (.ref b), some (.int x1)], [.int 0, .ref (b + 3)], (hput h b (Md.cells b B1)), c, n)) rfl ?_
    obtain ⟨i4, h5, hr⟩ := bd_some hr
    refine x_iald rfl rfl (h_lt (i := 3) hb (by decide)) (hp_at (i := 3) hh rfl rfl) h5 ?_
    cases hr
    rw [kr]
    exact x_ret rfl rfl am_ret_i
  rcases ite_some hr with ⟨h6, hr⟩ | ⟨h6, hr⟩
  · refine x_tswk rfl rfl h6 rfl ?_
    refine x_ldan rfl rfl rfl (h_lt (i := 0) hb (by decide)) ?_
    obtain ⟨v8, h7, hr⟩ := bd_some hr
    refine x_c0 (m_178 (hp_rg hb hh rfl) h7) rfl rfl rfl rfl (am_recv_v (h_lt (i := 0) hb (by decide)) (hp_at (i := 0) hh rfl rfl) rfl) (by omega) ?_
    cases hr
    rw [kr]
    exact x_ret rfl rfl am_ret_i
  rcases ite_some hr with ⟨h9, hr⟩ | ⟨h9, hr⟩
  · refine x_tswk rfl rfl h9 rfl ?_
    refine x_ldan rfl rfl rfl (h_lt (i := 0) hb (by decide)) ?_
    obtain ⟨v11, h10, hr⟩ := bd_some hr
    refine x_c0 (m_179 (hp_rg hb hh rfl) h10) rfl rfl rfl rfl (am_recv_v (h_lt (i := 0) hb (by decide)) (hp_at (i := 0) hh rfl rfl) rfl) (by omega) ?_
    cases hr
    rw [kr]
    exact x_ret rfl rfl am_ret_i
  rcases ite_some hr with ⟨h12, hr⟩ | ⟨h12, hr⟩
  · refine x_tswk rfl rfl h12 rfl ?_
    refine x_ldan rfl rfl rfl (h_lt (i := 0) hb (by decide)) ?_
    refine x_getf rfl rfl (h_lt (i := 0) hb (by decide)) (hp_at (i := 0) hh rfl rfl) rfl ?_
    refine x_b 1 (S2 := (67, [some (.ref b), some (.int x1)], [.int 13, .ref (b + 3)], (hput h b (Md.cells b B1)), c, n)) rfl ?_
    obtain ⟨i13, h14, hr⟩ := bd_some hr
    refine x_iald rfl rfl (h_lt (i := 3) hb (by decide)) (hp_at (i := 3) hh rfl rfl) h14 ?_
    cases hr
    rw [kr]
    exact x_ret rfl rfl am_ret_i
  rcases ite_some hr with ⟨h15, hr⟩ | ⟨h15, hr⟩
  · refine x_tswk rfl rfl h15 rfl ?_
    refine x_ldan rfl rfl rfl (h_lt (i := 0) hb (by decide)) ?_
    refine x_getf rfl rfl (h_lt (i := 0) hb (by decide)) (hp_at (i := 0) hh rfl rfl) rfl ?_
    refine x_b 1 (S2 := (75, [some (.ref b), some (.int x1)], [.int 14, .ref (b + 3)], (hput h b (Md.cells b B1)), c, n)) rfl ?_
    obtain ⟨i16, h17, hr⟩ := bd_some hr
    refine x_iald rfl rfl (h_lt (i := 3) hb (by decide)) (hp_at (i := 3) hh rfl rfl) h17 ?_
    cases hr
    rw [kr]
    exact x_ret rfl rfl am_ret_i
  rcases ite_some hr with ⟨h18, hr⟩ | ⟨h18, hr⟩
  · refine x_tswk rfl rfl h18 rfl ?_
    refine x_ldan rfl rfl rfl (h_lt (i := 0) hb (by decide)) ?_
    obtain ⟨⟨v20, B21⟩, h19, hr⟩ := bd_some hr
    refine x_c0 (m_198 hb hh h19) rfl rfl rfl rfl (am_recv_v (h_lt (i := 0) hb (by decide)) (hp_at (i := 0) hh rfl rfl) rfl) (by omega) ?_
    cases hr
    rw [kr]
    exact x_ret rfl rfl am_ret_i
  refine x_tswd rfl rfl (tsw_out 5 (by decide) (fun k hk => match k, hk with | 0, _ => h3 | 1, _ => h6 | 2, _ => h9 | 3, _ => h12 | 4, _ => h15 | 5, _ => h18 | k + 6, hk => absurd hk (by omega))) ⟨by decide, rfl⟩ ?_
  refine x_ldan rfl rfl rfl (h_lt (i := 0) hb (by decide)) ?_
  refine x_b 1 (S2 := (84, [some (.ref b), some (.int x1)], [.int 1, .ref b], (hput h b (Md.cells b B1)), c, n)) rfl ?_
  obtain ⟨B22, h23, hr⟩ := bd_some hr
  refine x_putf (H := (hput h b (Md.cells b B22))) rfl rfl (h_lt (i := 0) hb (by decide)) (hp_at (i := 0) hh rfl rfl) ⟨(show 0 < 28 by decide), rfl, rfl, nofun⟩ (hp_set (i := 0) hh rfl (by decide) (Md.s_thrown rfl h23)) ?_
  refine x_b 1 (S2 := (88, [some (.ref b), some (.int x1)], [.int 0], (hput h b (Md.cells b B22)), c, n)) rfl ?_
  cases hr
  rw [kr]
  exact x_ret rfl rfl am_ret_i
theorem m_199 {h : AHp} {b : Nat} (hb : b + 17 ≤ am_SB) (hh : b + 17 ≤ h.length) {B : Md} {x1 : Int32} {o : Int32 × (Md)} (hr : F_199 B x1 = some o) : Rn 6 199 [.ref b, .int x1] (hput h b (Md.cells b B)) (.inl (some (.int o.1)), hput h b (Md.cells b o.2), 0, 0) :=
  x_meth (M := am_M199) rfl (show 2 ≤ 2 by decide) (f_199 (Nat.le_refl _) hb hh hr rfl)
def J_200_0_j33 (B : Md) (t0 : Int32) : Option (Int32 × (Md)) :=
  if t0 = 0 ∨ t0 = 1 then some (t0, B) else none
theorem j_200_0_j33 {d : Nat} (hd : 4 ≤ d) {scr : ASc} {res : ARe} {c n : Nat} {h : AHp} {b : Nat} (hb : b + 17 ≤ am_SB) (hh : b + 17 ≤ h.length) {B : Md} {t0 : Int32} {o : Int32 × (Md)} (hr : J_200_0_j33 B t0 = some o) (kr : res = (.inl (some (.int o.1)), hput h b (Md.cells b o.2), c, n)) : Ex d am_M200 scr (33, [none, none, none], [.int t0], (hput h b (Md.cells b B)), c, n) res := by
  delta J_200_0_j33 at hr
  obtain ⟨h9, hr⟩ := itn_some hr
  cases hr
  rw [kr]
  exact x_ret rfl rfl (am_ret_z h9)
def J_200_0_j32 (B : Md) : Option (Int32 × (Md)) :=
  J_200_0_j33 B 0
theorem j_200_0_j32 {d : Nat} (hd : 4 ≤ d) {scr : ASc} {res : ARe} {c n : Nat} {h : AHp} {b : Nat} (hb : b + 17 ≤ am_SB) (hh : b + 17 ≤ h.length) {B : Md} {o : Int32 × (Md)} (hr : J_200_0_j32 B = some o) (kr : res = (.inl (some (.int o.1)), hput h b (Md.cells b o.2), c, n)) : Ex d am_M200 scr (32, [none, none, none], [], (hput h b (Md.cells b B)), c, n) res := by
  delta J_200_0_j32 at hr
  refine x_b 1 (S2 := (33, [none, none, none], [.int 0], (hput h b (Md.cells b B)), c, n)) rfl ?_
  refine x_fg (Lq.s (Lq.s (Lq.s Lq.nil))) ?_
  exact j_200_0_j33 hd hb hh hr kr
/-- PebbleProofsModel.isEdge(II)Z -/
def F_200 (B : Md) (x1 : Int32) (x2 : Int32) : Option (Int32 × (Md)) :=
  (some (B.w_thrown 0)).bind fun B1 =>
  (F_173 B1 x1 x2).bind fun v4 =>
  (F_135 B1 v4 1).bind fun (v6, B7) =>
  if ¬ v6 = 0 then
    J_200_0_j32 B7
  else
    (F_175 B7 x1 x2).bind fun v11 =>
    if v11 = 0 then
      J_200_0_j32 B7
    else
      J_200_0_j33 B7 1
theorem f_200 {d : Nat} (hd : 4 ≤ d) {scr : ASc} {res : ARe} {c n : Nat} {h : AHp} {b : Nat} (hb : b + 17 ≤ am_SB) (hh : b + 17 ≤ h.length) {B : Md} {x1 : Int32} {x2 : Int32} {o : Int32 × (Md)} (hr : F_200 B x1 x2 = some o) (kr : res = (.inl (some (.int o.1)), hput h b (Md.cells b o.2), c, n)) : Ex d am_M200 scr (0, [some (.ref b), some (.int x1), some (.int x2)], [], (hput h b (Md.cells b B)), c, n) res := by
  delta F_200 at hr
  refine x_ldan rfl rfl rfl (h_lt (i := 0) hb (by decide)) ?_
  refine x_b 1 (S2 := (2, [some (.ref b), some (.int x1), some (.int x2)], [.int 0, .ref b], (hput h b (Md.cells b B)), c, n)) rfl ?_
  obtain ⟨B1, h2, hr⟩ := bd_some hr
  refine x_putf (H := (hput h b (Md.cells b B1))) rfl rfl (h_lt (i := 0) hb (by decide)) (hp_at (i := 0) hh rfl rfl) ⟨(show 0 < 28 by decide), rfl, rfl, nofun⟩ (hp_set (i := 0) hh rfl (by decide) (Md.s_thrown rfl h2)) ?_
  refine x_ldan rfl rfl rfl (h_lt (i := 0) hb (by decide)) ?_
  refine x_ldan rfl rfl rfl (h_lt (i := 0) hb (by decide)) ?_
  refine x_b 2 (S2 := (9, [some (.ref b), some (.int x1), some (.int x2)], [.int x2, .int x1, .ref b, .ref b], (hput h b (Md.cells b B1)), c, n)) rfl ?_
  obtain ⟨v4, h3, hr⟩ := bd_some hr
  refine x_c0 (m_173 (hp_rg hb hh rfl) h3) rfl rfl rfl rfl (am_recv_v (h_lt (i := 0) hb (by decide)) (hp_at (i := 0) hh rfl rfl) rfl) (by omega) ?_
  refine x_b 1 (S2 := (13, [some (.ref b), some (.int x1), some (.int x2)], [.int 1, .int v4, .ref b], (hput h b (Md.cells b B1)), c, n)) rfl ?_
  obtain ⟨⟨v6, B7⟩, h5, hr⟩ := bd_some hr
  refine x_c0 (m_135 hb hh h5) rfl rfl rfl rfl (am_recv_v (h_lt (i := 0) hb (by decide)) (hp_at (i := 0) hh rfl rfl) rfl) (by omega) ?_
  rcases ite_some hr with ⟨h8, hr⟩ | ⟨h8, hr⟩
  · refine x_zt rfl rfl (decide_eq_true h8) ?_
    refine x_fg (Lq.n (Lq.n (Lq.n Lq.nil))) ?_
    exact j_200_0_j32 hd hb hh hr kr
  · refine x_zf rfl rfl (decide_eq_false h8) ?_
    refine x_ldan rfl rfl rfl (h_lt (i := 0) hb (by decide)) ?_
    refine x_b 2 (S2 := (22, [some (.ref b), some (.int x1), some (.int x2)], [.int x2, .int x1, .ref b], (hput h b (Md.cells b B7)), c, n)) rfl ?_
    obtain ⟨v11, h10, hr⟩ := bd_some hr
    refine x_c0 (m_175 (hp_rg hb hh rfl) h10) rfl rfl rfl rfl (am_recv_v (h_lt (i := 0) hb (by decide)) (hp_at (i := 0) hh rfl rfl) rfl) (by omega) ?_
    rcases ite_some hr with ⟨h12, hr⟩ | ⟨h12, hr⟩
    · refine x_zt rfl rfl (decide_eq_true h12) ?_
      refine x_fg (Lq.n (Lq.n (Lq.n Lq.nil))) ?_
      exact j_200_0_j32 hd hb hh hr kr
    · refine x_zf rfl rfl (decide_eq_false h12) ?_
      refine x_b 2 (S2 := (33, [some (.ref b), some (.int x1), some (.int x2)], [.int 1], (hput h b (Md.cells b B7)), c, n)) rfl ?_
      refine x_fg (Lq.n (Lq.n (Lq.n Lq.nil))) ?_
      exact j_200_0_j33 hd hb hh hr kr
theorem m_200 {h : AHp} {b : Nat} (hb : b + 17 ≤ am_SB) (hh : b + 17 ≤ h.length) {B : Md} {x1 : Int32} {x2 : Int32} {o : Int32 × (Md)} (hr : F_200 B x1 x2 = some o) : Rn 5 200 [.ref b, .int x1, .int x2] (hput h b (Md.cells b B)) (.inl (some (.int o.1)), hput h b (Md.cells b o.2), 0, 0) :=
  x_meth (M := am_M200) rfl (show 3 ≤ 3 by decide) (f_200 (Nat.le_refl _) hb hh hr rfl)
/-- PebbleProofsModel.distance(II)I -/
def F_201 (B : Md) (x1 : Int32) (x2 : Int32) : Option (Int32 × (Md)) :=
  (some (B.w_thrown 0)).bind fun B1 =>
  (F_173 B1 x1 x2).bind fun v4 =>
  (F_135 B1 v4 1).bind fun (v6, B7) =>
  if v6 = 0 then
    (F_181 B7 x1).bind fun B10 =>
    (F_183 B10 x1 x2).bind fun v12 =>
    some (v12, B10)
  else
    some (0, B7)
theorem f_201 {d : Nat} (hd : 4 ≤ d) {scr : ASc} {res : ARe} {c n : Nat} {h : AHp} {b : Nat} (hb : b + 17 ≤ am_SB) (hh : b + 17 ≤ h.length) {B : Md} {x1 : Int32} {x2 : Int32} {o : Int32 × (Md)} (hr : F_201 B x1 x2 = some o) (kr : res = (.inl (some (.int o.1)), hput h b (Md.cells b o.2), c, n)) : Ex d am_M201 scr (0, [some (.ref b), some (.int x1), some (.int x2)], [], (hput h b (Md.cells b B)), c, n) res := by
  delta F_201 at hr
  refine x_ldan rfl rfl rfl (h_lt (i := 0) hb (by decide)) ?_
  refine x_b 1 (S2 := (2, [some (.ref b), some (.int x1), some (.int x2)], [.int 0, .ref b], (hput h b (Md.cells b B)), c, n)) rfl ?_
  obtain ⟨B1, h2, hr⟩ := bd_some hr
  refine x_putf (H := (hput h b (Md.cells b B1))) rfl rfl (h_lt (i := 0) hb (by decide)) (hp_at (i := 0) hh rfl rfl) ⟨(show 0 < 28 by decide), rfl, rfl, nofun⟩ (hp_set (i := 0) hh rfl (by decide) (Md.s_thrown rfl h2)) ?_
  refine x_ldan rfl rfl rfl (h_lt (i := 0) hb (by decide)) ?_
  refine x_ldan rfl rfl rfl (h_lt (i := 0) hb (by decide)) ?_
  refine x_b 2 (S2 := (9, [some (.ref b), some (.int x1), some (.int x2)], [.int x2, .int x1, .ref b, .ref b], (hput h b (Md.cells b B1)), c, n)) rfl ?_
  obtain ⟨v4, h3, hr⟩ := bd_some hr
  refine x_c0 (m_173 (hp_rg hb hh rfl) h3) rfl rfl rfl rfl (am_recv_v (h_lt (i := 0) hb (by decide)) (hp_at (i := 0) hh rfl rfl) rfl) (by omega) ?_
  refine x_b 1 (S2 := (13, [some (.ref b), some (.int x1), some (.int x2)], [.int 1, .int v4, .ref b], (hput h b (Md.cells b B1)), c, n)) rfl ?_
  obtain ⟨⟨v6, B7⟩, h5, hr⟩ := bd_some hr
  refine x_c0 (m_135 hb hh h5) rfl rfl rfl rfl (am_recv_v (h_lt (i := 0) hb (by decide)) (hp_at (i := 0) hh rfl rfl) rfl) (by omega) ?_
  rcases ite_some hr with ⟨h8, hr⟩ | ⟨h8, hr⟩
  · refine x_zt rfl rfl (decide_eq_true h8) ?_
    refine x_ldan rfl rfl rfl (h_lt (i := 0) hb (by decide)) ?_
    refine x_b 1 (S2 := (23, [some (.ref b), some (.int x1), some (.int x2)], [.int x1, .ref b], (hput h b (Md.cells b B7)), c, n)) rfl ?_
    obtain ⟨B10, h9, hr⟩ := bd_some hr
    refine x_c0 (m_181 hb hh h9) rfl rfl rfl rfl (am_recv_v (h_lt (i := 0) hb (by decide)) (hp_at (i := 0) hh rfl rfl) rfl) (by omega) ?_
    refine x_ldan rfl rfl rfl (h_lt (i := 0) hb (by decide)) ?_
    refine x_b 2 (S2 := (29, [some (.ref b), some (.int x1), some (.int x2)], [.int x2, .int x1, .ref b], (hput h b (Md.cells b B10)), c, n)) rfl ?_
    obtain ⟨v12, h11, hr⟩ := bd_some hr
    refine x_c0 (m_183 (hp_rg hb hh rfl) h11) rfl rfl rfl rfl (am_recv_v (h_lt (i := 0) hb (by decide)) (hp_at (i := 0) hh rfl rfl) rfl) (by omega) ?_
    cases hr
    rw [kr]
    exact x_ret rfl rfl am_ret_i
  · refine x_zf rfl rfl (decide_eq_false h8) ?_
    refine x_b 1 (S2 := (20, [some (.ref b), some (.int x1), some (.int x2)], [.int 0], (hput h b (Md.cells b B7)), c, n)) rfl ?_
    cases hr
    rw [kr]
    exact x_ret rfl rfl am_ret_i
theorem m_201 {h : AHp} {b : Nat} (hb : b + 17 ≤ am_SB) (hh : b + 17 ≤ h.length) {B : Md} {x1 : Int32} {x2 : Int32} {o : Int32 × (Md)} (hr : F_201 B x1 x2 = some o) : Rn 5 201 [.ref b, .int x1, .int x2] (hput h b (Md.cells b B)) (.inl (some (.int o.1)), hput h b (Md.cells b o.2), 0, 0) :=
  x_meth (M := am_M201) rfl (show 3 ≤ 3 by decide) (f_201 (Nat.le_refl _) hb hh hr rfl)
abbrev P_202_29 (h : AHp) (b : Nat) (c n : Nat) (B : Md) (x1 : Int32) (s : Int32 × Int32) : ASt := (29, [some (.ref b), some (.int x1), some (.int s.1), some (.int s.2)], [], (hput h b (Md.cells b B)), c, n)
abbrev PX_202_29 (h : AHp) (b : Nat) (c n : Nat) (B : Md) (x1 : Int32) (s : Int32) : ASt := (66, [none, none, some (.int s), none], [], (hput h b (Md.cells b B)), c, n)
def J_202_29_j59 (B : Md) (x1 : Int32) (x3 : Int32) (t0 : Int32) : Option ((Int32 × Int32) ⊕ (Int32)) :=
  some (.inl (t0, (x3 + 1)))
theorem j_202_29_j59 {d : Nat} (hd : 3 ≤ d) {scr : ASc} {res : ARe} {c n : Nat} {h : AHp} {b : Nat} (hb : b + 17 ≤ am_SB) (hh : b + 17 ≤ h.length) {B : Md} {x1 : Int32} {x3 : Int32} {t0 : Int32} {o : (Int32 × Int32) ⊕ (Int32)} (hr : J_202_29_j59 B x1 x3 t0 = some o) (ka : ∀ s, o = .inl s → Ex d am_M202 scr (P_202_29 h b c n B x1 s) res) (kx : ∀ s, o = .inr s → Ex d am_M202 scr (PX_202_29 h b c n B x1 s) res) : Ex d am_M202 scr (59, [some (.ref b), some (.int x1), none, some (.int x3)], [.int t0], (hput h b (Md.cells b B)), c, n) res := by
  delta J_202_29_j59 at hr
  refine x_b 3 (S2 := (29, [some (.ref b), some (.int x1), some (.int t0), some (.int (x3 + 1))], [], (hput h b (Md.cells b B)), c, n)) rfl ?_
  refine x_fg (Lq.s (Lq.s (Lq.s (Lq.s Lq.nil)))) ?_
  exact ka (t0, (x3 + 1)) (Option.some.inj hr).symm
def G_202_29 (B : Md) (x1 : Int32) (s : Int32 × Int32) : Option ((Int32 × Int32) ⊕ (Int32)) := 
  match s with
  | (x2, x3) =>
    (ix 0 93).bind fun i11 =>
    if (B.now i11) ≤ x3 then
      some (.inr x2)
    else
      (F_183 B x1 x3).bind fun v15 =>
      (F_183 B x1 x2).bind fun v17 =>
      if v15 ≤ v17 then
        J_202_29_j59 B x1 x3 x2
      else
        J_202_29_j59 B x1 x3 x3
theorem g_202_29 {d : Nat} (hd : 3 ≤ d) {scr : ASc} {res : ARe} {c n : Nat} {h : AHp} {b : Nat} (hb : b + 17 ≤ am_SB) (hh : b + 17 ≤ h.length) {B : Md} {x1 : Int32} {s : Int32 × Int32} {o : (Int32 × Int32) ⊕ (Int32)} (hr : G_202_29 B x1 s = some o) (ka : ∀ s, o = .inl s → Ex d am_M202 scr (P_202_29 h b c n B x1 s) res) (kx : ∀ s, o = .inr s → Ex d am_M202 scr (PX_202_29 h b c n B x1 s) res) : Ex d am_M202 scr (P_202_29 h b c n B x1 s) res := by
  obtain ⟨x2, x3⟩ := s
  delta G_202_29 at hr
  show Ex d am_M202 scr (29, [some (.ref b), some (.int x1), some (.int x2), some (.int x3)], [], (hput h b (Md.cells b B)), c, n) res
  refine x_b 1 (S2 := (30, [some (.ref b), some (.int x1), some (.int x2), some (.int x3)], [.int x3], (hput h b (Md.cells b B)), c, n)) rfl ?_
  refine x_ldan rfl rfl rfl (h_lt (i := 0) hb (by decide)) ?_
  refine x_getf rfl rfl (h_lt (i := 0) hb (by decide)) (hp_at (i := 0) hh rfl rfl) rfl ?_
  refine x_b 1 (S2 := (35, [some (.ref b), some (.int x1), some (.int x2), some (.int x3)], [.int 0, .ref (b + 3), .int x3], (hput h b (Md.cells b B)), c, n)) rfl ?_
  obtain ⟨i11, h12, hr⟩ := bd_some hr
  refine x_iald rfl rfl (h_lt (i := 3) hb (by decide)) (hp_at (i := 3) hh rfl rfl) h12 ?_
  rcases ite_some hr with ⟨h13, hr⟩ | ⟨h13, hr⟩
  · refine x_ct rfl rfl (decide_eq_true h13) ?_
    refine x_fg (Lq.n (Lq.n (Lq.s (Lq.n Lq.nil)))) ?_
    exact kx x2 (Option.some.inj hr).symm
  · refine x_cf rfl rfl (decide_eq_false h13) ?_
    refine x_ldan rfl rfl rfl (h_lt (i := 0) hb (by decide)) ?_
    refine x_b 2 (S2 := (42, [some (.ref b), some (.int x1), some (.int x2), some (.int x3)], [.int x3, .int x1, .ref b], (hput h b (Md.cells b B)), c, n)) rfl ?_
    obtain ⟨v15, h14, hr⟩ := bd_some hr
    refine x_c0 (m_183 (hp_rg hb hh rfl) h14) rfl rfl rfl rfl (am_recv_v (h_lt (i := 0) hb (by decide)) (hp_at (i := 0) hh rfl rfl) rfl) (by omega) ?_
    refine x_ldan rfl rfl rfl (h_lt (i := 0) hb (by decide)) ?_
    refine x_b 2 (S2 := (48, [some (.ref b), some (.int x1), some (.int x2), some (.int x3)], [.int x2, .int x1, .ref b, .int v15], (hput h b (Md.cells b B)), c, n)) rfl ?_
    obtain ⟨v17, h16, hr⟩ := bd_some hr
    refine x_c0 (m_183 (hp_rg hb hh rfl) h16) rfl rfl rfl rfl (am_recv_v (h_lt (i := 0) hb (by decide)) (hp_at (i := 0) hh rfl rfl) rfl) (by omega) ?_
    rcases ite_some hr with ⟨h18, hr⟩ | ⟨h18, hr⟩
    · refine x_ct rfl rfl (decide_eq_true h18) ?_
      refine x_b 1 (S2 := (59, [some (.ref b), some (.int x1), some (.int x2), some (.int x3)], [.int x2], (hput h b (Md.cells b B)), c, n)) rfl ?_
      refine x_fg (Lq.s (Lq.s (Lq.n (Lq.s Lq.nil)))) ?_
      exact j_202_29_j59 hd hb hh hr ka kx
    · refine x_cf rfl rfl (decide_eq_false h18) ?_
      refine x_b 2 (S2 := (59, [some (.ref b), some (.int x1), some (.int x2), some (.int x3)], [.int x3], (hput h b (Md.cells b B)), c, n)) rfl ?_
      refine x_fg (Lq.s (Lq.s (Lq.n (Lq.s Lq.nil)))) ?_
      exact j_202_29_j59 hd hb hh hr ka kx
/-- PebbleProofsModel.farthest(I)I -/
def F_202 (B : Md) (x1 : Int32) : Option (Int32 × (Md)) :=
  (some (B.w_thrown 0)).bind fun B1 =>
  (F_172 B1 x1).bind fun v4 =>
  (F_135 B1 v4 1).bind fun (v6, B7) =>
  if v6 = 0 then
    (F_181 B7 x1).bind fun B10 =>
    (lw (G_202_29 B10 x1) 200000 (0, 1)).bind fun v20 =>
    some (v20, B10)
  else
    some (0, B7)
theorem f_202 {d : Nat} (hd : 3 ≤ d) {scr : ASc} {res : ARe} {c n : Nat} {h : AHp} {b : Nat} (hb : b + 17 ≤ am_SB) (hh : b + 17 ≤ h.length) {B : Md} {x1 : Int32} {o : Int32 × (Md)} (hr : F_202 B x1 = some o) (kr : res = (.inl (some (.int o.1)), hput h b (Md.cells b o.2), c, n)) : Ex d am_M202 scr (0, [some (.ref b), some (.int x1), none, none], [], (hput h b (Md.cells b B)), c, n) res := by
  delta F_202 at hr
  refine x_ldan rfl rfl rfl (h_lt (i := 0) hb (by decide)) ?_
  refine x_b 1 (S2 := (2, [some (.ref b), some (.int x1), none, none], [.int 0, .ref b], (hput h b (Md.cells b B)), c, n)) rfl ?_
  obtain ⟨B1, h2, hr⟩ := bd_some hr
  refine x_putf (H := (hput h b (Md.cells b B1))) rfl rfl (h_lt (i := 0) hb (by decide)) (hp_at (i := 0) hh rfl rfl) ⟨(show 0 < 28 by decide), rfl, rfl, nofun⟩ (hp_set (i := 0) hh rfl (by decide) (Md.s_thrown rfl h2)) ?_
  refine x_ldan rfl rfl rfl (h_lt (i := 0) hb (by decide)) ?_
  refine x_ldan rfl rfl rfl (h_lt (i := 0) hb (by decide)) ?_
  refine x_b 1 (S2 := (8, [some (.ref b), some (.int x1), none, none], [.int x1, .ref b, .ref b], (hput h b (Md.cells b B1)), c, n)) rfl ?_
  obtain ⟨v4, h3, hr⟩ := bd_some hr
  refine x_c0 (m_172 (hp_rg hb hh rfl) h3) rfl rfl rfl rfl (am_recv_v (h_lt (i := 0) hb (by decide)) (hp_at (i := 0) hh rfl rfl) rfl) (by omega) ?_
  refine x_b 1 (S2 := (12, [some (.ref b), some (.int x1), none, none], [.int 1, .int v4, .ref b], (hput h b (Md.cells b B1)), c, n)) rfl ?_
  obtain ⟨⟨v6, B7⟩, h5, hr⟩ := bd_some hr
  refine x_c0 (m_135 hb hh h5) rfl rfl rfl rfl (am_recv_v (h_lt (i := 0) hb (by decide)) (hp_at (i := 0) hh rfl rfl) rfl) (by omega) ?_
  rcases ite_some hr with ⟨h8, hr⟩ | ⟨h8, hr⟩
  · refine x_zt rfl rfl (decide_eq_true h8) ?_
    refine x_ldan rfl rfl rfl (h_lt (i := 0) hb (by decide)) ?_
    refine x_b 1 (S2 := (22, [some (.ref b), some (.int x1), none, none], [.int x1, .ref b], (hput h b (Md.cells b B7)), c, n)) rfl ?_
    obtain ⟨B10, h9, hr⟩ := bd_some hr
    refine x_c0 (m_181 hb hh h9) rfl rfl rfl rfl (am_recv_v (h_lt (i := 0) hb (by decide)) (hp_at (i := 0) hh rfl rfl) rfl) (by omega) ?_
    refine x_b 4 (S2 := (29, [some (.ref b), some (.int x1), some (.int 0), some (.int 1)], [], (hput h b (Md.cells b B10)), c, n)) rfl ?_
    refine x_fg (Lq.s (Lq.s (Lq.s (Lq.s Lq.nil)))) ?_
    obtain ⟨v20, h19, hr⟩ := bd_some hr
    refine x_lw (P := P_202_29 h b c n B10 x1) (Q := fun x => Ex d am_M202 scr (PX_202_29 h b c n B10 x1 x) res) (fun s o h1 ka kx => g_202_29 hd hb hh h1 ka kx) _ (0, 1) _ h19 ?_
    show Ex d am_M202 scr (66, [none, none, some (.int v20), none], [], (hput h b (Md.cells b B10)), c, n) res
    refine x_b 1 (S2 := (67, [none, none, some (.int v20), none], [.int v20], (hput h b (Md.cells b B10)), c, n)) rfl ?_
    cases hr
    rw [kr]
    exact x_ret rfl rfl am_ret_i
  · refine x_zf rfl rfl (decide_eq_false h8) ?_
    refine x_b 1 (S2 := (19, [some (.ref b), some (.int x1), none, none], [.int 0], (hput h b (Md.cells b B7)), c, n)) rfl ?_
    cases hr
    rw [kr]
    exact x_ret rfl rfl am_ret_i
theorem m_202 {h : AHp} {b : Nat} (hb : b + 17 ≤ am_SB) (hh : b + 17 ≤ h.length) {B : Md} {x1 : Int32} {o : Int32 × (Md)} (hr : F_202 B x1 = some o) : Rn 4 202 [.ref b, .int x1] (hput h b (Md.cells b B)) (.inl (some (.int o.1)), hput h b (Md.cells b o.2), 0, 0) :=
  x_meth (M := am_M202) rfl (show 2 ≤ 4 by decide) (f_202 (Nat.le_refl _) hb hh hr rfl)
def J_203_0_j27 (B : Md) (t0 : Int32) : Option (Int32 × (Md)) :=
  some (t0, B)
theorem j_203_0_j27 {d : Nat} (hd : 3 ≤ d) {scr : ASc} {res : ARe} {c n : Nat} {h : AHp} {b : Nat} (hb : b + 17 ≤ am_SB) (hh : b + 17 ≤ h.length) {B : Md} {t0 : Int32} {o : Int32 × (Md)} (hr : J_203_0_j27 B t0 = some o) (kr : res = (.inl (some (.int o.1)), hput h b (Md.cells b o.2), c, n)) : Ex d am_M203 scr (27, [none, none], [.int t0], (hput h b (Md.cells b B)), c, n) res := by
  delta J_203_0_j27 at hr
  cases hr
  rw [kr]
  exact x_ret rfl rfl am_ret_i
/-- PebbleProofsModel.pebbles(I)I -/
def F_203 (B : Md) (x1 : Int32) : Option (Int32 × (Md)) :=
  (some (B.w_thrown 0)).bind fun B1 =>
  (F_172 B1 x1).bind fun v4 =>
  (F_135 B1 v4 1).bind fun (v6, B7) =>
  if v6 = 0 then
    (F_176 B7 x1).bind fun v10 =>
    J_203_0_j27 B7 v10
  else
    J_203_0_j27 B7 0
theorem f_203 {d : Nat} (hd : 3 ≤ d) {scr : ASc} {res : ARe} {c n : Nat} {h : AHp} {b : Nat} (hb : b + 17 ≤ am_SB) (hh : b + 17 ≤ h.length) {B : Md} {x1 : Int32} {o : Int32 × (Md)} (hr : F_203 B x1 = some o) (kr : res = (.inl (some (.int o.1)), hput h b (Md.cells b o.2), c, n)) : Ex d am_M203 scr (0, [some (.ref b), some (.int x1)], [], (hput h b (Md.cells b B)), c, n) res := by
  delta F_203 at hr
  refine x_ldan rfl rfl rfl (h_lt (i := 0) hb (by decide)) ?_
  refine x_b 1 (S2 := (2, [some (.ref b), some (.int x1)], [.int 0, .ref b], (hput h b (Md.cells b B)), c, n)) rfl ?_
  obtain ⟨B1, h2, hr⟩ := bd_some hr
  refine x_putf (H := (hput h b (Md.cells b B1))) rfl rfl (h_lt (i := 0) hb (by decide)) (hp_at (i := 0) hh rfl rfl) ⟨(show 0 < 28 by decide), rfl, rfl, nofun⟩ (hp_set (i := 0) hh rfl (by decide) (Md.s_thrown rfl h2)) ?_
  refine x_ldan rfl rfl rfl (h_lt (i := 0) hb (by decide)) ?_
  refine x_ldan rfl rfl rfl (h_lt (i := 0) hb (by decide)) ?_
  refine x_b 1 (S2 := (8, [some (.ref b), some (.int x1)], [.int x1, .ref b, .ref b], (hput h b (Md.cells b B1)), c, n)) rfl ?_
  obtain ⟨v4, h3, hr⟩ := bd_some hr
  refine x_c0 (m_172 (hp_rg hb hh rfl) h3) rfl rfl rfl rfl (am_recv_v (h_lt (i := 0) hb (by decide)) (hp_at (i := 0) hh rfl rfl) rfl) (by omega) ?_
  refine x_b 1 (S2 := (12, [some (.ref b), some (.int x1)], [.int 1, .int v4, .ref b], (hput h b (Md.cells b B1)), c, n)) rfl ?_
  obtain ⟨⟨v6, B7⟩, h5, hr⟩ := bd_some hr
  refine x_c0 (m_135 hb hh h5) rfl rfl rfl rfl (am_recv_v (h_lt (i := 0) hb (by decide)) (hp_at (i := 0) hh rfl rfl) rfl) (by omega) ?_
  rcases ite_some hr with ⟨h8, hr⟩ | ⟨h8, hr⟩
  · refine x_zt rfl rfl (decide_eq_true h8) ?_
    refine x_ldan rfl rfl rfl (h_lt (i := 0) hb (by decide)) ?_
    refine x_b 1 (S2 := (24, [some (.ref b), some (.int x1)], [.int x1, .ref b], (hput h b (Md.cells b B7)), c, n)) rfl ?_
    obtain ⟨v10, h9, hr⟩ := bd_some hr
    refine x_c0 (m_176 (hp_rg hb hh rfl) h9) rfl rfl rfl rfl (am_recv_v (h_lt (i := 0) hb (by decide)) (hp_at (i := 0) hh rfl rfl) rfl) (by omega) ?_
    refine x_fg (Lq.n (Lq.n Lq.nil)) ?_
    exact j_203_0_j27 hd hb hh hr kr
  · refine x_zf rfl rfl (decide_eq_false h8) ?_
    refine x_b 2 (S2 := (27, [some (.ref b), some (.int x1)], [.int 0], (hput h b (Md.cells b B7)), c, n)) rfl ?_
    refine x_fg (Lq.n (Lq.n Lq.nil)) ?_
    exact j_203_0_j27 hd hb hh hr kr
theorem m_203 {h : AHp} {b : Nat} (hb : b + 17 ≤ am_SB) (hh : b + 17 ≤ h.length) {B : Md} {x1 : Int32} {o : Int32 × (Md)} (hr : F_203 B x1 = some o) : Rn 4 203 [.ref b, .int x1] (hput h b (Md.cells b B)) (.inl (some (.int o.1)), hput h b (Md.cells b o.2), 0, 0) :=
  x_meth (M := am_M203) rfl (show 2 ≤ 2 by decide) (f_203 (Nat.le_refl _) hb hh hr rfl)
abbrev P_204_24 (h : AHp) (b : Nat) (c n : Nat) (B : Md) (x1 : Int32) (s : Int32 × Int32) : ASt := (24, [some (.ref b), some (.int x1), some (.int s.1), some (.int s.2)], [], (hput h b (Md.cells b B)), c, n)
abbrev PX_204_24 (h : AHp) (b : Nat) (c n : Nat) (B : Md) (x1 : Int32) (s : Int32) : ASt := (57, [none, none, some (.int s), none], [], (hput h b (Md.cells b B)), c, n)
def J_204_24_j49 (B : Md) (x1 : Int32) (x3 : Int32) (t0 : Int32) (t1 : Int32) : Option ((Int32 × Int32) ⊕ (Int32)) :=
  some (.inl ((t1 + t0), (x3 + 1)))
theorem j_204_24_j49 {d : Nat} (hd : 4 ≤ d) {scr : ASc} {res : ARe} {c n : Nat} {h : AHp} {b : Nat} (hb : b + 17 ≤ am_SB) (hh : b + 17 ≤ h.length) {B : Md} {x1 : Int32} {x3 : Int32} {t0 : Int32} {t1 : Int32} {o : (Int32 × Int32) ⊕ (Int32)} (hr : J_204_24_j49 B x1 x3 t0 t1 = some o) (ka : ∀ s, o = .inl s → Ex d am_M204 scr (P_204_24 h b c n B x1 s) res) (kx : ∀ s, o = .inr s → Ex d am_M204 scr (PX_204_24 h b c n B x1 s) res) : Ex d am_M204 scr (49, [some (.ref b), some (.int x1), none, some (.int x3)], [.int t0, .int t1], (hput h b (Md.cells b B)), c, n) res := by
  delta J_204_24_j49 at hr
  refine x_b 4 (S2 := (24, [some (.ref b), some (.int x1), some (.int (t1 + t0)), some (.int (x3 + 1))], [], (hput h b (Md.cells b B)), c, n)) rfl ?_
  refine x_fg (Lq.s (Lq.s (Lq.s (Lq.s Lq.nil)))) ?_
  exact ka ((t1 + t0), (x3 + 1)) (Option.some.inj hr).symm
def G_204_24 (B : Md) (x1 : Int32) (s : Int32 × Int32) : Option ((Int32 × Int32) ⊕ (Int32)) := 
  match s with
  | (x2, x3) =>
    (ix 0 93).bind fun i9 =>
    if (B.now i9) ≤ x3 then
      some (.inr x2)
    else
      (F_192 B x1 x3).bind fun v13 =>
      if v13 = 0 then
        J_204_24_j49 B x1 x3 0 x2
      else
        J_204_24_j49 B x1 x3 1 x2
theorem g_204_24 {d : Nat} (hd : 4 ≤ d) {scr : ASc} {res : ARe} {c n : Nat} {h : AHp} {b : Nat} (hb : b + 17 ≤ am_SB) (hh : b + 17 ≤ h.length) {B : Md} {x1 : Int32} {s : Int32 × Int32} {o : (Int32 × Int32) ⊕ (Int32)} (hr : G_204_24 B x1 s = some o) (ka : ∀ s, o = .inl s → Ex d am_M204 scr (P_204_24 h b c n B x1 s) res) (kx : ∀ s, o = .inr s → Ex d am_M204 scr (PX_204_24 h b c n B x1 s) res) : Ex d am_M204 scr (P_204_24 h b c n B x1 s) res := by
  obtain ⟨x2, x3⟩ := s
  delta G_204_24 at hr
  show Ex d am_M204 scr (24, [some (.ref b), some (.int x1), some (.int x2), some (.int x3)], [], (hput h b (Md.cells b B)), c, n) res
  refine x_b 1 (S2 := (25, [some (.ref b), some (.int x1), some (.int x2), some (.int x3)], [.int x3], (hput h b (Md.cells b B)), c, n)) rfl ?_
  refine x_ldan rfl rfl rfl (h_lt (i := 0) hb (by decide)) ?_
  refine x_getf rfl rfl (h_lt (i := 0) hb (by decide)) (hp_at (i := 0) hh rfl rfl) rfl ?_
  refine x_b 1 (S2 := (30, [some (.ref b), some (.int x1), some (.int x2), some (.int x3)], [.int 0, .ref (b + 3), .int x3], (hput h b (Md.cells b B)), c, n)) rfl ?_
  obtain ⟨i9, h10, hr⟩ := bd_some hr
  refine x_iald rfl rfl (h_lt (i := 3) hb (by decide)) (hp_at (i := 3) hh rfl rfl) h10 ?_
  rcases ite_some hr with ⟨h11, hr⟩ | ⟨h11, hr⟩
  · refine x_ct rfl rfl (decide_eq_true h11) ?_
    refine x_fg (Lq.n (Lq.n (Lq.s (Lq.n Lq.nil)))) ?_
    exact kx x2 (Option.some.inj hr).symm
  · refine x_cf rfl rfl (decide_eq_false h11) ?_
    refine x_b 1 (S2 := (35, [some (.ref b), some (.int x1), some (.int x2), some (.int x3)], [.int x2], (hput h b (Md.cells b B)), c, n)) rfl ?_
    refine x_ldan rfl rfl rfl (h_lt (i := 0) hb (by decide)) ?_
    refine x_b 2 (S2 := (38, [some (.ref b), some (.int x1), some (.int x2), some (.int x3)], [.int x3, .int x1, .ref b, .int x2], (hput h b (Md.cells b B)), c, n)) rfl ?_
    obtain ⟨v13, h12, hr⟩ := bd_some hr
    refine x_c0 (m_192 (hp_rg hb hh rfl) h12) rfl rfl rfl rfl (am_recv_v (h_lt (i := 0) hb (by decide)) (hp_at (i := 0) hh rfl rfl) rfl) (by omega) ?_
    rcases ite_some hr with ⟨h14, hr⟩ | ⟨h14, hr⟩
    · refine x_zt rfl rfl (decide_eq_true h14) ?_
      refine x_b 1 (S2 := (49, [some (.ref b), some (.int x1), some (.int x2), some (.int x3)], [.int 0, .int x2], (hput h b (Md.cells b B)), c, n)) rfl ?_
      refine x_fg (Lq.s (Lq.s (Lq.n (Lq.s Lq.nil)))) ?_
      exact j_204_24_j49 hd hb hh hr ka kx
    · refine x_zf rfl rfl (decide_eq_false h14) ?_
      refine x_b 2 (S2 := (49, [some (.ref b), some (.int x1), some (.int x2), some (.int x3)], [.int 1, .int x2], (hput h b (Md.cells b B)), c, n)) rfl ?_
      refine x_fg (Lq.s (Lq.s (Lq.n (Lq.s Lq.nil)))) ?_
      exact j_204_24_j49 hd hb hh hr ka kx
/-- PebbleProofsModel.moves(I)I -/
def F_204 (B : Md) (x1 : Int32) : Option (Int32 × (Md)) :=
  (some (B.w_thrown 0)).bind fun B1 =>
  (F_172 B1 x1).bind fun v4 =>
  (F_135 B1 v4 1).bind fun (v6, B7) =>
  if v6 = 0 then
    (lw (G_204_24 B7 x1) 200000 (0, 0)).bind fun v16 =>
    some (v16, B7)
  else
    some (0, B7)
theorem f_204 {d : Nat} (hd : 4 ≤ d) {scr : ASc} {res : ARe} {c n : Nat} {h : AHp} {b : Nat} (hb : b + 17 ≤ am_SB) (hh : b + 17 ≤ h.length) {B : Md} {x1 : Int32} {o : Int32 × (Md)} (hr : F_204 B x1 = some o) (kr : res = (.inl (some (.int o.1)), hput h b (Md.cells b o.2), c, n)) : Ex d am_M204 scr (0, [some (.ref b), some (.int x1), none, none], [], (hput h b (Md.cells b B)), c, n) res := by
  delta F_204 at hr
  refine x_ldan rfl rfl rfl (h_lt (i := 0) hb (by decide)) ?_
  refine x_b 1 (S2 := (2, [some (.ref b), some (.int x1), none, none], [.int 0, .ref b], (hput h b (Md.cells b B)), c, n)) rfl ?_
  obtain ⟨B1, h2, hr⟩ := bd_some hr
  refine x_putf (H := (hput h b (Md.cells b B1))) rfl rfl (h_lt (i := 0) hb (by decide)) (hp_at (i := 0) hh rfl rfl) ⟨(show 0 < 28 by decide), rfl, rfl, nofun⟩ (hp_set (i := 0) hh rfl (by decide) (Md.s_thrown rfl h2)) ?_
  refine x_ldan rfl rfl rfl (h_lt (i := 0) hb (by decide)) ?_
  refine x_ldan rfl rfl rfl (h_lt (i := 0) hb (by decide)) ?_
  refine x_b 1 (S2 := (8, [some (.ref b), some (.int x1), none, none], [.int x1, .ref b, .ref b], (hput h b (Md.cells b B1)), c, n)) rfl ?_
  obtain ⟨v4, h3, hr⟩ := bd_some hr
  refine x_c0 (m_172 (hp_rg hb hh rfl) h3) rfl rfl rfl rfl (am_recv_v (h_lt (i := 0) hb (by decide)) (hp_at (i := 0) hh rfl rfl) rfl) (by omega) ?_
  refine x_b 1 (S2 := (12, [some (.ref b), some (.int x1), none, none], [.int 1, .int v4, .ref b], (hput h b (Md.cells b B1)), c, n)) rfl ?_
  obtain ⟨⟨v6, B7⟩, h5, hr⟩ := bd_some hr
  refine x_c0 (m_135 hb hh h5) rfl rfl rfl rfl (am_recv_v (h_lt (i := 0) hb (by decide)) (hp_at (i := 0) hh rfl rfl) rfl) (by omega) ?_
  rcases ite_some hr with ⟨h8, hr⟩ | ⟨h8, hr⟩
  · refine x_zt rfl rfl (decide_eq_true h8) ?_
    refine x_b 4 (S2 := (24, [some (.ref b), some (.int x1), some (.int 0), some (.int 0)], [], (hput h b (Md.cells b B7)), c, n)) rfl ?_
    refine x_fg (Lq.s (Lq.s (Lq.s (Lq.s Lq.nil)))) ?_
    obtain ⟨v16, h15, hr⟩ := bd_some hr
    refine x_lw (P := P_204_24 h b c n B7 x1) (Q := fun x => Ex d am_M204 scr (PX_204_24 h b c n B7 x1 x) res) (fun s o h1 ka kx => g_204_24 hd hb hh h1 ka kx) _ (0, 0) _ h15 ?_
    show Ex d am_M204 scr (57, [none, none, some (.int v16), none], [], (hput h b (Md.cells b B7)), c, n) res
    refine x_b 1 (S2 := (58, [none, none, some (.int v16), none], [.int v16], (hput h b (Md.cells b B7)), c, n)) rfl ?_
    cases hr
    rw [kr]
    exact x_ret rfl rfl am_ret_i
  · refine x_zf rfl rfl (decide_eq_false h8) ?_
    refine x_b 1 (S2 := (19, [some (.ref b), some (.int x1), none, none], [.int 0], (hput h b (Md.cells b B7)), c, n)) rfl ?_
    cases hr
    rw [kr]
    exact x_ret rfl rfl am_ret_i
theorem m_204 {h : AHp} {b : Nat} (hb : b + 17 ≤ am_SB) (hh : b + 17 ≤ h.length) {B : Md} {x1 : Int32} {o : Int32 × (Md)} (hr : F_204 B x1 = some o) : Rn 5 204 [.ref b, .int x1] (hput h b (Md.cells b B)) (.inl (some (.int o.1)), hput h b (Md.cells b o.2), 0, 0) :=
  x_meth (M := am_M204) rfl (show 2 ≤ 4 by decide) (f_204 (Nat.le_refl _) hb hh hr rfl)
/-- PebbleProofsModel.isReachable(I)Z -/
def F_211 (B : Md) (x1 : Int32) : Option (Int32 × (Md)) :=
  (some (B.w_thrown 0)).bind fun B1 =>
  (F_172 B1 x1).bind fun v4 =>
  (F_135 B1 v4 1).bind fun (v6, B7) =>
  if v6 = 0 then
    (F_209 B7 x1).bind fun B10 =>
    (F_210 B10 x1).bind fun v12 =>
    if v12 = 0 ∨ v12 = 1 then some (v12, B10) else none
  else
    some (0, B7)
theorem f_211 {d : Nat} (hd : 5 ≤ d) {scr : ASc} {res : ARe} {c n : Nat} {h : AHp} {b : Nat} (hb : b + 17 ≤ am_SB) (hh : b + 17 ≤ h.length) {B : Md} {x1 : Int32} {o : Int32 × (Md)} (hr : F_211 B x1 = some o) (kr : res = (.inl (some (.int o.1)), hput h b (Md.cells b o.2), c, n)) : Ex d am_M211 scr (0, [some (.ref b), some (.int x1)], [], (hput h b (Md.cells b B)), c, n) res := by
  delta F_211 at hr
  refine x_ldan rfl rfl rfl (h_lt (i := 0) hb (by decide)) ?_
  refine x_b 1 (S2 := (2, [some (.ref b), some (.int x1)], [.int 0, .ref b], (hput h b (Md.cells b B)), c, n)) rfl ?_
  obtain ⟨B1, h2, hr⟩ := bd_some hr
  refine x_putf (H := (hput h b (Md.cells b B1))) rfl rfl (h_lt (i := 0) hb (by decide)) (hp_at (i := 0) hh rfl rfl) ⟨(show 0 < 28 by decide), rfl, rfl, nofun⟩ (hp_set (i := 0) hh rfl (by decide) (Md.s_thrown rfl h2)) ?_
  refine x_ldan rfl rfl rfl (h_lt (i := 0) hb (by decide)) ?_
  refine x_ldan rfl rfl rfl (h_lt (i := 0) hb (by decide)) ?_
  refine x_b 1 (S2 := (8, [some (.ref b), some (.int x1)], [.int x1, .ref b, .ref b], (hput h b (Md.cells b B1)), c, n)) rfl ?_
  obtain ⟨v4, h3, hr⟩ := bd_some hr
  refine x_c0 (m_172 (hp_rg hb hh rfl) h3) rfl rfl rfl rfl (am_recv_v (h_lt (i := 0) hb (by decide)) (hp_at (i := 0) hh rfl rfl) rfl) (by omega) ?_
  refine x_b 1 (S2 := (12, [some (.ref b), some (.int x1)], [.int 1, .int v4, .ref b], (hput h b (Md.cells b B1)), c, n)) rfl ?_
  obtain ⟨⟨v6, B7⟩, h5, hr⟩ := bd_some hr
  refine x_c0 (m_135 hb hh h5) rfl rfl rfl rfl (am_recv_v (h_lt (i := 0) hb (by decide)) (hp_at (i := 0) hh rfl rfl) rfl) (by omega) ?_
  rcases ite_some hr with ⟨h8, hr⟩ | ⟨h8, hr⟩
  · refine x_zt rfl rfl (decide_eq_true h8) ?_
    refine x_ldan rfl rfl rfl (h_lt (i := 0) hb (by decide)) ?_
    refine x_b 1 (S2 := (22, [some (.ref b), some (.int x1)], [.int x1, .ref b], (hput h b (Md.cells b B7)), c, n)) rfl ?_
    obtain ⟨B10, h9, hr⟩ := bd_some hr
    refine x_c0 (m_209 hb hh h9) rfl rfl rfl rfl (am_recv_v (h_lt (i := 0) hb (by decide)) (hp_at (i := 0) hh rfl rfl) rfl) (by omega) ?_
    refine x_ldan rfl rfl rfl (h_lt (i := 0) hb (by decide)) ?_
    refine x_b 1 (S2 := (27, [some (.ref b), some (.int x1)], [.int x1, .ref b], (hput h b (Md.cells b B10)), c, n)) rfl ?_
    obtain ⟨v12, h11, hr⟩ := bd_some hr
    refine x_c0 (m_210 (hp_rg hb hh rfl) h11) rfl rfl rfl rfl (am_recv_v (h_lt (i := 0) hb (by decide)) (hp_at (i := 0) hh rfl rfl) rfl) (by omega) ?_
    obtain ⟨h13, hr⟩ := itn_some hr
    cases hr
    rw [kr]
    exact x_ret rfl rfl (am_ret_z h13)
  · refine x_zf rfl rfl (decide_eq_false h8) ?_
    refine x_b 1 (S2 := (19, [some (.ref b), some (.int x1)], [.int 0], (hput h b (Md.cells b B7)), c, n)) rfl ?_
    cases hr
    rw [kr]
    exact x_ret rfl rfl (am_ret_z (by decide))
theorem m_211 {h : AHp} {b : Nat} (hb : b + 17 ≤ am_SB) (hh : b + 17 ≤ h.length) {B : Md} {x1 : Int32} {o : Int32 × (Md)} (hr : F_211 B x1 = some o) : Rn 6 211 [.ref b, .int x1] (hput h b (Md.cells b B)) (.inl (some (.int o.1)), hput h b (Md.cells b o.2), 0, 0) :=
  x_meth (M := am_M211) rfl (show 2 ≤ 2 by decide) (f_211 (Nat.le_refl _) hb hh hr rfl)
abbrev P_212_9 (h : AHp) (b : Nat) (c n : Nat)  (s : Int32 × Int32 × (Md)) : ASt := (9, [some (.ref b), some (.int s.1), some (.int s.2.1)], [], (hput h b (Md.cells b s.2.2)), c, n)
abbrev PX_212_9 (h : AHp) (b : Nat) (c n : Nat)  (s : Int32 × (Md)) : ASt := (48, [none, some (.int s.1), none], [], (hput h b (Md.cells b s.2)), c, n)
def J_212_9_j40 (B : Md) (x2 : Int32) (t0 : Int32) (t1 : Int32) : Option ((Int32 × Int32 × (Md)) ⊕ (Int32 × (Md))) :=
  some (.inl ((t1 ||| t0), (x2 + 1), B))
theorem j_212_9_j40 {d : Nat} (hd : 5 ≤ d) {scr : ASc} {res : ARe} {c n : Nat} {h : AHp} {b : Nat} (hb : b + 17 ≤ am_SB) (hh : b + 17 ≤ h.length) {B : Md} {x2 : Int32} {t0 : Int32} {t1 : Int32} {o : (Int32 × Int32 × (Md)) ⊕ (Int32 × (Md))} (hr : J_212_9_j40 B x2 t0 t1 = some o) (ka : ∀ s, o = .inl s → Ex d am_M212 scr (P_212_9 h b c n  s) res) (kx : ∀ s, o = .inr s → Ex d am_M212 scr (PX_212_9 h b c n  s) res) : Ex d am_M212 scr (40, [some (.ref b), none, some (.int x2)], [.int t0, .int t1], (hput h b (Md.cells b B)), c, n) res := by
  delta J_212_9_j40 at hr
  refine x_b 4 (S2 := (9, [some (.ref b), some (.int (t1 ||| t0)), some (.int (x2 + 1))], [], (hput h b (Md.cells b B)), c, n)) rfl ?_
  refine x_fg (Lq.s (Lq.s (Lq.s Lq.nil))) ?_
  exact ka ((t1 ||| t0), (x2 + 1), B) (Option.some.inj hr).symm
def G_212_9  (s : Int32 × Int32 × (Md)) : Option ((Int32 × Int32 × (Md)) ⊕ (Int32 × (Md))) := 
  match s with
  | (x1, x2, B) =>
    (ix 0 93).bind fun i3 =>
    if (B.now i3) ≤ x2 then
      some (.inr (x1, B))
    else
      (F_209 B x2).bind fun B7 =>
      (F_210 B7 x2).bind fun v9 =>
      if v9 = 0 then
        J_212_9_j40 B7 x2 0 x1
      else
        J_212_9_j40 B7 x2 (1 <<< (x2 &&& 31)) x1
theorem g_212_9 {d : Nat} (hd : 5 ≤ d) {scr : ASc} {res : ARe} {c n : Nat} {h : AHp} {b : Nat} (hb : b + 17 ≤ am_SB) (hh : b + 17 ≤ h.length)  {s : Int32 × Int32 × (Md)} {o : (Int32 × Int32 × (Md)) ⊕ (Int32 × (Md))} (hr : G_212_9  s = some o) (ka : ∀ s, o = .inl s → Ex d am_M212 scr (P_212_9 h b c n  s) res) (kx : ∀ s, o = .inr s → Ex d am_M212 scr (PX_212_9 h b c n  s) res) : Ex d am_M212 scr (P_212_9 h b c n  s) res := by
  obtain ⟨x1, x2, B⟩ := s
  delta G_212_9 at hr
  show Ex d am_M212 scr (9, [some (.ref b), some (.int x1), some (.int x2)], [], (hput h b (Md.cells b B)), c, n) res
  refine x_b 1 (S2 := (10, [some (.ref b), some (.int x1), some (.int x2)], [.int x2], (hput h b (Md.cells b B)), c, n)) rfl ?_
  refine x_ldan rfl rfl rfl (h_lt (i := 0) hb (by decide)) ?_
  refine x_getf rfl rfl (h_lt (i := 0) hb (by decide)) (hp_at (i := 0) hh rfl rfl) rfl ?_
  refine x_b 1 (S2 := (15, [some (.ref b), some (.int x1), some (.int x2)], [.int 0, .ref (b + 3), .int x2], (hput h b (Md.cells b B)), c, n)) rfl ?_
  obtain ⟨i3, h4, hr⟩ := bd_some hr
  refine x_iald rfl rfl (h_lt (i := 3) hb (by decide)) (hp_at (i := 3) hh rfl rfl) h4 ?_
  rcases ite_some hr with ⟨h5, hr⟩ | ⟨h5, hr⟩
  · refine x_ct rfl rfl (decide_eq_true h5) ?_
    refine x_fg (Lq.n (Lq.s (Lq.n Lq.nil))) ?_
    exact kx (x1, B) (Option.some.inj hr).symm
  · refine x_cf rfl rfl (decide_eq_false h5) ?_
    refine x_ldan rfl rfl rfl (h_lt (i := 0) hb (by decide)) ?_
    refine x_b 1 (S2 := (21, [some (.ref b), some (.int x1), some (.int x2)], [.int x2, .ref b], (hput h b (Md.cells b B)), c, n)) rfl ?_
    obtain ⟨B7, h6, hr⟩ := bd_some hr
    refine x_c0 (m_209 hb hh h6) rfl rfl rfl rfl (am_recv_v (h_lt (i := 0) hb (by decide)) (hp_at (i := 0) hh rfl rfl) rfl) (by omega) ?_
    refine x_b 1 (S2 := (25, [some (.ref b), some (.int x1), some (.int x2)], [.int x1], (hput h b (Md.cells b B7)), c, n)) rfl ?_
    refine x_ldan rfl rfl rfl (h_lt (i := 0) hb (by decide)) ?_
    refine x_b 1 (S2 := (27, [some (.ref b), some (.int x1), some (.int x2)], [.int x2, .ref b, .int x1], (hput h b (Md.cells b B7)), c, n)) rfl ?_
    obtain ⟨v9, h8, hr⟩ := bd_some hr
    refine x_c0 (m_210 (hp_rg hb hh rfl) h8) rfl rfl rfl rfl (am_recv_v (h_lt (i := 0) hb (by decide)) (hp_at (i := 0) hh rfl rfl) rfl) (by omega) ?_
    rcases ite_some hr with ⟨h10, hr⟩ | ⟨h10, hr⟩
    · refine x_zt rfl rfl (decide_eq_true h10) ?_
      refine x_b 1 (S2 := (40, [some (.ref b), some (.int x1), some (.int x2)], [.int 0, .int x1], (hput h b (Md.cells b B7)), c, n)) rfl ?_
      refine x_fg (Lq.s (Lq.n (Lq.s Lq.nil))) ?_
      exact j_212_9_j40 hd hb hh hr ka kx
    · refine x_zf rfl rfl (decide_eq_false h10) ?_
      refine x_b 4 (S2 := (40, [some (.ref b), some (.int x1), some (.int x2)], [.int (1 <<< (x2 &&& 31)), .int x1], (hput h b (Md.cells b B7)), c, n)) rfl ?_
      refine x_fg (Lq.s (Lq.n (Lq.s Lq.nil))) ?_
      exact j_212_9_j40 hd hb hh hr ka kx
/-- PebbleProofsModel.reachable()I -/
def F_212 (B : Md) : Option (Int32 × (Md)) :=
  (some (B.w_thrown 0)).bind fun B1 =>
  (lw (G_212_9 ) 200000 (0, 0, B1)).bind fun (v12, B13) =>
  some (v12, B13)
theorem f_212 {d : Nat} (hd : 5 ≤ d) {scr : ASc} {res : ARe} {c n : Nat} {h : AHp} {b : Nat} (hb : b + 17 ≤ am_SB) (hh : b + 17 ≤ h.length) {B : Md} {o : Int32 × (Md)} (hr : F_212 B = some o) (kr : res = (.inl (some (.int o.1)), hput h b (Md.cells b o.2), c, n)) : Ex d am_M212 scr (0, [some (.ref b), none, none], [], (hput h b (Md.cells b B)), c, n) res := by
  delta F_212 at hr
  refine x_ldan rfl rfl rfl (h_lt (i := 0) hb (by decide)) ?_
  refine x_b 1 (S2 := (2, [some (.ref b), none, none], [.int 0, .ref b], (hput h b (Md.cells b B)), c, n)) rfl ?_
  obtain ⟨B1, h2, hr⟩ := bd_some hr
  refine x_putf (H := (hput h b (Md.cells b B1))) rfl rfl (h_lt (i := 0) hb (by decide)) (hp_at (i := 0) hh rfl rfl) ⟨(show 0 < 28 by decide), rfl, rfl, nofun⟩ (hp_set (i := 0) hh rfl (by decide) (Md.s_thrown rfl h2)) ?_
  refine x_b 4 (S2 := (9, [some (.ref b), some (.int 0), some (.int 0)], [], (hput h b (Md.cells b B1)), c, n)) rfl ?_
  refine x_fg (Lq.s (Lq.s (Lq.s Lq.nil))) ?_
  obtain ⟨o14, h11, hr⟩ := bd_some hr
  refine x_lw (P := P_212_9 h b c n ) (Q := fun x => Ex d am_M212 scr (PX_212_9 h b c n  x) res) (fun s o h1 ka kx => g_212_9 hd hb hh h1 ka kx) _ (0, 0, B1) _ h11 ?_
  obtain ⟨v12, B13⟩ := o14
  show Ex d am_M212 scr (48, [none, some (.int v12), none], [], (hput h b (Md.cells b B13)), c, n) res
  refine x_b 1 (S2 := (49, [none, some (.int v12), none], [.int v12], (hput h b (Md.cells b B13)), c, n)) rfl ?_
  cases hr
  rw [kr]
  exact x_ret rfl rfl am_ret_i
theorem m_212 {h : AHp} {b : Nat} (hb : b + 17 ≤ am_SB) (hh : b + 17 ≤ h.length) {B : Md} {o : Int32 × (Md)} (hr : F_212 B = some o) : Rn 6 212 [.ref b] (hput h b (Md.cells b B)) (.inl (some (.int o.1)), hput h b (Md.cells b o.2), 0, 0) :=
  x_meth (M := am_M212) rfl (show 1 ≤ 3 by decide) (f_212 (Nat.le_refl _) hb hh hr rfl)
def J_215_0_j39 (B : Md) : Option (Int32 × (Md)) :=
  some (0, B)
theorem j_215_0_j39 {d : Nat} (hd : 6 ≤ d) {scr : ASc} {res : ARe} {c n : Nat} {h : AHp} {b : Nat} (hb : b + 17 ≤ am_SB) (hh : b + 17 ≤ h.length) {B : Md} {o : Int32 × (Md)} (hr : J_215_0_j39 B = some o) (kr : res = (.inl (some (.int o.1)), hput h b (Md.cells b o.2), c, n)) : Ex d am_M215 scr (39, [none, none], [], (hput h b (Md.cells b B)), c, n) res := by
  delta J_215_0_j39 at hr
  refine x_b 1 (S2 := (40, [none, none], [.int 0], (hput h b (Md.cells b B)), c, n)) rfl ?_
  cases hr
  rw [kr]
  exact x_ret rfl rfl am_ret_i
def J_215_0_j68 (B : Md) (t0 : Int32) : Option (Int32 × (Md)) :=
  some (t0, B)
theorem j_215_0_j68 {d : Nat} (hd : 6 ≤ d) {scr : ASc} {res : ARe} {c n : Nat} {h : AHp} {b : Nat} (hb : b + 17 ≤ am_SB) (hh : b + 17 ≤ h.length) {B : Md} {t0 : Int32} {o : Int32 × (Md)} (hr : J_215_0_j68 B t0 = some o) (kr : res = (.inl (some (.int o.1)), hput h b (Md.cells b o.2), c, n)) : Ex d am_M215 scr (68, [none, none], [.int t0], (hput h b (Md.cells b B)), c, n) res := by
  delta J_215_0_j68 at hr
  cases hr
  rw [kr]
  exact x_ret rfl rfl am_ret_i
def J_215_0_j32 (B : Md) (x1 : Int32) (t0 : Int32) : Option (Int32 × (Md)) :=
  (F_135 B t0 2).bind fun (v13, B14) =>
  if v13 = 0 then
    (F_209 B14 x1).bind fun B17 =>
    (F_210 B17 x1).bind fun v19 =>
    (F_135 B17 v19 2).bind fun (v21, B22) =>
    if v21 = 0 then
      (F_214 B22 x1).bind fun (v25, B26) =>
      J_215_0_j68 B26 v25
    else
      J_215_0_j68 B22 0
  else
    J_215_0_j39 B14
theorem j_215_0_j32 {d : Nat} (hd : 6 ≤ d) {scr : ASc} {res : ARe} {c n : Nat} {h : AHp} {b : Nat} (hb : b + 17 ≤ am_SB) (hh : b + 17 ≤ h.length) {B : Md} {x1 : Int32} {t0 : Int32} {o : Int32 × (Md)} (hr : J_215_0_j32 B x1 t0 = some o) (kr : res = (.inl (some (.int o.1)), hput h b (Md.cells b o.2), c, n)) : Ex d am_M215 scr (32, [some (.ref b), some (.int x1)], [.int t0, .ref b], (hput h b (Md.cells b B)), c, n) res := by
  delta J_215_0_j32 at hr
  refine x_b 1 (S2 := (33, [some (.ref b), some (.int x1)], [.int 2, .int t0, .ref b], (hput h b (Md.cells b B)), c, n)) rfl ?_
  obtain ⟨⟨v13, B14⟩, h12, hr⟩ := bd_some hr
  refine x_c0 (m_135 hb hh h12) rfl rfl rfl rfl (am_recv_v (h_lt (i := 0) hb (by decide)) (hp_at (i := 0) hh rfl rfl) rfl) (by omega) ?_
  rcases ite_some hr with ⟨h15, hr⟩ | ⟨h15, hr⟩
  · refine x_zt rfl rfl (decide_eq_true h15) ?_
    refine x_ldan rfl rfl rfl (h_lt (i := 0) hb (by decide)) ?_
    refine x_b 1 (S2 := (43, [some (.ref b), some (.int x1)], [.int x1, .ref b], (hput h b (Md.cells b B14)), c, n)) rfl ?_
    obtain ⟨B17, h16, hr⟩ := bd_some hr
    refine x_c0 (m_209 hb hh h16) rfl rfl rfl rfl (am_recv_v (h_lt (i := 0) hb (by decide)) (hp_at (i := 0) hh rfl rfl) rfl) (by omega) ?_
    refine x_ldan rfl rfl rfl (h_lt (i := 0) hb (by decide)) ?_
    refine x_ldan rfl rfl rfl (h_lt (i := 0) hb (by decide)) ?_
    refine x_b 1 (S2 := (49, [some (.ref b), some (.int x1)], [.int x1, .ref b, .ref b], (hput h b (Md.cells b B17)), c, n)) rfl ?_
    obtain ⟨v19, h18, hr⟩ := bd_some hr
    refine x_c0 (m_210 (hp_rg hb hh rfl) h18) rfl rfl rfl rfl (am_recv_v (h_lt (i := 0) hb (by decide)) (hp_at (i := 0) hh rfl rfl) rfl) (by omega) ?_
    refine x_b 1 (S2 := (53, [some (.ref b), some (.int x1)], [.int 2, .int v19, .ref b], (hput h b (Md.cells b B17)), c, n)) rfl ?_
    obtain ⟨⟨v21, B22⟩, h20, hr⟩ := bd_some hr
    refine x_c0 (m_135 hb hh h20) rfl rfl rfl rfl (am_recv_v (h_lt (i := 0) hb (by decide)) (hp_at (i := 0) hh rfl rfl) rfl) (by omega) ?_
    rcases ite_some hr with ⟨h23, hr⟩ | ⟨h23, hr⟩
    · refine x_zt rfl rfl (decide_eq_true h23) ?_
      refine x_ldan rfl rfl rfl (h_lt (i := 0) hb (by decide)) ?_
      refine x_b 1 (S2 := (65, [some (.ref b), some (.int x1)], [.int x1, .ref b], (hput h b (Md.cells b B22)), c, n)) rfl ?_
      obtain ⟨⟨v25, B26⟩, h24, hr⟩ := bd_some hr
      refine x_c0 (m_214 hb hh h24) rfl rfl rfl rfl (am_recv_v (h_lt (i := 0) hb (by decide)) (hp_at (i := 0) hh rfl rfl) rfl) (by omega) ?_
      refine x_fg (Lq.n (Lq.n Lq.nil)) ?_
      exact j_215_0_j68 hd hb hh hr kr
    · refine x_zf rfl rfl (decide_eq_false h23) ?_
      refine x_b 2 (S2 := (68, [some (.ref b), some (.int x1)], [.int 0], (hput h b (Md.cells b B22)), c, n)) rfl ?_
      refine x_fg (Lq.n (Lq.n Lq.nil)) ?_
      exact j_215_0_j68 hd hb hh hr kr
  · refine x_zf rfl rfl (decide_eq_false h15) ?_
    refine x_fg (Lq.n (Lq.n Lq.nil)) ?_
    exact j_215_0_j39 hd hb hh hr kr
/-- PebbleProofsModel.next(I)I -/
def F_215 (B : Md) (x1 : Int32) : Option (Int32 × (Md)) :=
  (some (B.w_thrown 0)).bind fun B1 =>
  (F_172 B1 x1).bind fun v4 =>
  (F_135 B1 v4 1).bind fun (v6, B7) =>
  if ¬ v6 = 0 then
    J_215_0_j39 B7
  else
    (F_176 B7 x1).bind fun v10 =>
    if ¬ v10 = 0 then
      J_215_0_j32 B7 x1 0
    else
      J_215_0_j32 B7 x1 1
theorem f_215 {d : Nat} (hd : 6 ≤ d) {scr : ASc} {res : ARe} {c n : Nat} {h : AHp} {b : Nat} (hb : b + 17 ≤ am_SB) (hh : b + 17 ≤ h.length) {B : Md} {x1 : Int32} {o : Int32 × (Md)} (hr : F_215 B x1 = some o) (kr : res = (.inl (some (.int o.1)), hput h b (Md.cells b o.2), c, n)) : Ex d am_M215 scr (0, [some (.ref b), some (.int x1)], [], (hput h b (Md.cells b B)), c, n) res := by
  delta F_215 at hr
  refine x_ldan rfl rfl rfl (h_lt (i := 0) hb (by decide)) ?_
  refine x_b 1 (S2 := (2, [some (.ref b), some (.int x1)], [.int 0, .ref b], (hput h b (Md.cells b B)), c, n)) rfl ?_
  obtain ⟨B1, h2, hr⟩ := bd_some hr
  refine x_putf (H := (hput h b (Md.cells b B1))) rfl rfl (h_lt (i := 0) hb (by decide)) (hp_at (i := 0) hh rfl rfl) ⟨(show 0 < 28 by decide), rfl, rfl, nofun⟩ (hp_set (i := 0) hh rfl (by decide) (Md.s_thrown rfl h2)) ?_
  refine x_ldan rfl rfl rfl (h_lt (i := 0) hb (by decide)) ?_
  refine x_ldan rfl rfl rfl (h_lt (i := 0) hb (by decide)) ?_
  refine x_b 1 (S2 := (8, [some (.ref b), some (.int x1)], [.int x1, .ref b, .ref b], (hput h b (Md.cells b B1)), c, n)) rfl ?_
  obtain ⟨v4, h3, hr⟩ := bd_some hr
  refine x_c0 (m_172 (hp_rg hb hh rfl) h3) rfl rfl rfl rfl (am_recv_v (h_lt (i := 0) hb (by decide)) (hp_at (i := 0) hh rfl rfl) rfl) (by omega) ?_
  refine x_b 1 (S2 := (12, [some (.ref b), some (.int x1)], [.int 1, .int v4, .ref b], (hput h b (Md.cells b B1)), c, n)) rfl ?_
  obtain ⟨⟨v6, B7⟩, h5, hr⟩ := bd_some hr
  refine x_c0 (m_135 hb hh h5) rfl rfl rfl rfl (am_recv_v (h_lt (i := 0) hb (by decide)) (hp_at (i := 0) hh rfl rfl) rfl) (by omega) ?_
  rcases ite_some hr with ⟨h8, hr⟩ | ⟨h8, hr⟩
  · refine x_zt rfl rfl (decide_eq_true h8) ?_
    refine x_fg (Lq.n (Lq.n Lq.nil)) ?_
    exact j_215_0_j39 hd hb hh hr kr
  · refine x_zf rfl rfl (decide_eq_false h8) ?_
    refine x_ldan rfl rfl rfl (h_lt (i := 0) hb (by decide)) ?_
    refine x_ldan rfl rfl rfl (h_lt (i := 0) hb (by decide)) ?_
    refine x_b 1 (S2 := (21, [some (.ref b), some (.int x1)], [.int x1, .ref b, .ref b], (hput h b (Md.cells b B7)), c, n)) rfl ?_
    obtain ⟨v10, h9, hr⟩ := bd_some hr
    refine x_c0 (m_176 (hp_rg hb hh rfl) h9) rfl rfl rfl rfl (am_recv_v (h_lt (i := 0) hb (by decide)) (hp_at (i := 0) hh rfl rfl) rfl) (by omega) ?_
    rcases ite_some hr with ⟨h11, hr⟩ | ⟨h11, hr⟩
    · refine x_zt rfl rfl (decide_eq_true h11) ?_
      refine x_b 1 (S2 := (32, [some (.ref b), some (.int x1)], [.int 0, .ref b], (hput h b (Md.cells b B7)), c, n)) rfl ?_
      refine x_fg (Lq.s (Lq.s Lq.nil)) ?_
      exact j_215_0_j32 hd hb hh hr kr
    · refine x_zf rfl rfl (decide_eq_false h11) ?_
      refine x_b 2 (S2 := (32, [some (.ref b), some (.int x1)], [.int 1, .ref b], (hput h b (Md.cells b B7)), c, n)) rfl ?_
      refine x_fg (Lq.s (Lq.s Lq.nil)) ?_
      exact j_215_0_j32 hd hb hh hr kr
theorem m_215 {h : AHp} {b : Nat} (hb : b + 17 ≤ am_SB) (hh : b + 17 ≤ h.length) {B : Md} {x1 : Int32} {o : Int32 × (Md)} (hr : F_215 B x1 = some o) : Rn 7 215 [.ref b, .int x1] (hput h b (Md.cells b B)) (.inl (some (.int o.1)), hput h b (Md.cells b o.2), 0, 0) :=
  x_meth (M := am_M215) rfl (show 2 ≤ 2 by decide) (f_215 (Nat.le_refl _) hb hh hr rfl)
abbrev P_216_11 (H : AHp) (b : Nat) (c n : Nat) (B : Md) (s : Int32 × Int32) : ASt := (11, [some (.ref b), some (.int s.1), some (.int s.2)], [], H, c, n)
abbrev PX_216_11 (H : AHp) (b : Nat) (c n : Nat) (B : Md) (s : Int32) : ASt := (32, [none, some (.int s), none], [], H, c, n)
def G_216_11 (B : Md) (s : Int32 × Int32) : Option ((Int32 × Int32) ⊕ (Int32)) := 
  match s with
  | (x1, x2) =>
    if x2 < 0 then
      some (.inr x1)
    else
      (F_176 B x2).bind fun v5 =>
      some (.inl (((15 * x1) + v5), (x2 + (-1))))
theorem g_216_11 {d : Nat} (hd : 2 ≤ d) {scr : ASc} {res : ARe} {c n : Nat} {H : AHp} {b : Nat} {B : Md} (hR : Rg H b (Md.cells b B)) {s : Int32 × Int32} {o : (Int32 × Int32) ⊕ (Int32)} (hr : G_216_11 B s = some o) (ka : ∀ s, o = .inl s → Ex d am_M216 scr (P_216_11 H b c n B s) res) (kx : ∀ s, o = .inr s → Ex d am_M216 scr (PX_216_11 H b c n B s) res) : Ex d am_M216 scr (P_216_11 H b c n B s) res := by
  obtain ⟨x1, x2⟩ := s
  delta G_216_11 at hr
  show Ex d am_M216 scr (11, [some (.ref b), some (.int x1), some (.int x2)], [], H, c, n) res
  refine x_b 1 (S2 := (12, [some (.ref b), some (.int x1), some (.int x2)], [.int x2], H, c, n)) rfl ?_
  rcases ite_some hr with ⟨h3, hr⟩ | ⟨h3, hr⟩
  · refine x_zt rfl rfl (decide_eq_true h3) ?_
    refine x_fg (Lq.n (Lq.s (Lq.n Lq.nil))) ?_
    exact kx x1 (Option.some.inj hr).symm
  · refine x_zf rfl rfl (decide_eq_false h3) ?_
    refine x_b 3 (S2 := (19, [some (.ref b), some (.int x1), some (.int x2)], [.int (15 * x1)], H, c, n)) rfl ?_
    refine x_ldan rfl rfl rfl (hR.lt (i := 0) (show 0 < 17 by decide)) ?_
    refine x_b 1 (S2 := (21, [some (.ref b), some (.int x1), some (.int x2)], [.int x2, .ref b, .int (15 * x1)], H, c, n)) rfl ?_
    obtain ⟨v5, h4, hr⟩ := bd_some hr
    refine x_c0 (m_176 hR h4) rfl rfl rfl rfl (am_recv_v (hR.lt (i := 0) (show 0 < 17 by decide)) (hR.at (i := 0) rfl) rfl) (by omega) ?_
    refine x_b 4 (S2 := (11, [some (.ref b), some (.int ((15 * x1) + v5)), some (.int (x2 + (-1)))], [], H, c, n)) rfl ?_
    refine x_fg (Lq.s (Lq.s (Lq.s Lq.nil))) ?_
    exact ka (((15 * x1) + v5), (x2 + (-1))) (Option.some.inj hr).symm
/-- PebbleProofsModel.pileNow()I -/
def F_216 (B : Md) : Option (Int32) :=
  (ix 0 93).bind fun i1 =>
  (lw (G_216_11 B) 200000 (0, ((B.now i1) - 1))).bind fun v7 =>
  some v7
theorem f_216 {d : Nat} (hd : 2 ≤ d) {scr : ASc} {res : ARe} {c n : Nat} {H : AHp} {b : Nat} {B : Md} (hR : Rg H b (Md.cells b B)) {o : Int32} (hr : F_216 B = some o) (kr : res = (.inl (some (.int o)), H, c, n)) : Ex d am_M216 scr (0, [some (.ref b), none, none], [], H, c, n) res := by
  delta F_216 at hr
  refine x_b 2 (S2 := (2, [some (.ref b), some (.int 0), none], [], H, c, n)) rfl ?_
  refine x_ldan rfl rfl rfl (hR.lt (i := 0) (show 0 < 17 by decide)) ?_
  refine x_getf rfl rfl (hR.lt (i := 0) (show 0 < 17 by decide)) (hR.at (i := 0) rfl) rfl ?_
  refine x_b 1 (S2 := (7, [some (.ref b), some (.int 0), none], [.int 0, .ref (b + 3)], H, c, n)) rfl ?_
  obtain ⟨i1, h2, hr⟩ := bd_some hr
  refine x_iald rfl rfl (hR.lt (i := 3) (show 3 < 17 by decide)) (hR.at (i := 3) rfl) h2 ?_
  refine x_b 3 (S2 := (11, [some (.ref b), some (.int 0), some (.int ((B.now i1) - 1))], [], H, c, n)) rfl ?_
  refine x_fg (Lq.s (Lq.s (Lq.s Lq.nil))) ?_
  obtain ⟨v7, h6, hr⟩ := bd_some hr
  refine x_lw (P := P_216_11 H b c n B) (Q := fun x => Ex d am_M216 scr (PX_216_11 H b c n B x) res) (fun s o h1 ka kx => g_216_11 hd hR h1 ka kx) _ (0, ((B.now i1) - 1)) _ h6 ?_
  show Ex d am_M216 scr (32, [none, some (.int v7), none], [], H, c, n) res
  refine x_b 1 (S2 := (33, [none, some (.int v7), none], [.int v7], H, c, n)) rfl ?_
  cases hr
  rw [kr]
  exact x_ret rfl rfl am_ret_i
theorem m_216 {H : AHp} {b : Nat} {B : Md} (hR : Rg H b (Md.cells b B)) {o : Int32} (hr : F_216 B = some o) : Rn 3 216 [.ref b] H (.inl (some (.int o)), H, 0, 0) :=
  x_meth (M := am_M216) rfl (show 1 ≤ 3 by decide) (f_216 (Nat.le_refl _) hR hr rfl)
abbrev P_217_4 (H : AHp) (c n : Nat) (x0 : Int32) (x1 : Int32) (s : Int32 × Int32) : ASt := (4, [some (.int x0), some (.int x1), some (.int s.1), some (.int s.2)], [], H, c, n)
abbrev PX_217_4 (H : AHp) (c n : Nat) (x0 : Int32) (x1 : Int32) (s : Int32) : ASt := (19, [none, none, some (.int s), none], [], H, c, n)
def G_217_4 (x0 : Int32) (x1 : Int32) (s : Int32 × Int32) : Option ((Int32 × Int32) ⊕ (Int32)) := 
  match s with
  | (x2, x3) =>
    if x1 ≤ x3 then
      some (.inr x2)
    else
      some (.inl ((x2 * x0), (x3 + 1)))
theorem g_217_4 {d : Nat} (hd : 1 ≤ d) {scr : ASc} {res : ARe} {c n : Nat} {H : AHp} {x0 : Int32} {x1 : Int32} {s : Int32 × Int32} {o : (Int32 × Int32) ⊕ (Int32)} (hr : G_217_4 x0 x1 s = some o) (ka : ∀ s, o = .inl s → Ex d am_M217 scr (P_217_4 H c n x0 x1 s) res) (kx : ∀ s, o = .inr s → Ex d am_M217 scr (PX_217_4 H c n x0 x1 s) res) : Ex d am_M217 scr (P_217_4 H c n x0 x1 s) res := by
  obtain ⟨x2, x3⟩ := s
  delta G_217_4 at hr
  show Ex d am_M217 scr (4, [some (.int x0), some (.int x1), some (.int x2), some (.int x3)], [], H, c, n) res
  refine x_b 2 (S2 := (6, [some (.int x0), some (.int x1), some (.int x2), some (.int x3)], [.int x1, .int x3], H, c, n)) rfl ?_
  rcases ite_some hr with ⟨h1, hr⟩ | ⟨h1, hr⟩
  · refine x_ct rfl rfl (decide_eq_true h1) ?_
    refine x_fg (Lq.n (Lq.n (Lq.s (Lq.n Lq.nil)))) ?_
    exact kx x2 (Option.some.inj hr).symm
  · refine x_cf rfl rfl (decide_eq_false h1) ?_
    refine x_b 6 (S2 := (4, [some (.int x0), some (.int x1), some (.int (x2 * x0)), some (.int (x3 + 1))], [], H, c, n)) rfl ?_
    refine x_fg (Lq.s (Lq.s (Lq.s (Lq.s Lq.nil)))) ?_
    exact ka ((x2 * x0), (x3 + 1)) (Option.some.inj hr).symm
/-- PebbleProofsModel.power(II)I -/
def F_217 (x0 : Int32) (x1 : Int32) : Option (Int32) :=
  (lw (G_217_4 x0 x1) 200000 (1, 0)).bind fun v3 =>
  some v3
theorem f_217 {d : Nat} (hd : 1 ≤ d) {scr : ASc} {res : ARe} {c n : Nat} {H : AHp} {x0 : Int32} {x1 : Int32} {o : Int32} (hr : F_217 x0 x1 = some o) (kr : res = (.inl (some (.int o)), H, c, n)) : Ex d am_M217 scr (0, [some (.int x0), some (.int x1), none, none], [], H, c, n) res := by
  delta F_217 at hr
  refine x_b 4 (S2 := (4, [some (.int x0), some (.int x1), some (.int 1), some (.int 0)], [], H, c, n)) rfl ?_
  refine x_fg (Lq.s (Lq.s (Lq.s (Lq.s Lq.nil)))) ?_
  obtain ⟨v3, h2, hr⟩ := bd_some hr
  refine x_lw (P := P_217_4 H c n x0 x1) (Q := fun x => Ex d am_M217 scr (PX_217_4 H c n x0 x1 x) res) (fun s o h1 ka kx => g_217_4 hd h1 ka kx) _ (1, 0) _ h2 ?_
  show Ex d am_M217 scr (19, [none, none, some (.int v3), none], [], H, c, n) res
  refine x_b 1 (S2 := (20, [none, none, some (.int v3), none], [.int v3], H, c, n)) rfl ?_
  cases hr
  rw [kr]
  exact x_ret rfl rfl am_ret_i
theorem m_217 {H : AHp} {x0 : Int32} {x1 : Int32} {o : Int32} (hr : F_217 x0 x1 = some o) : Rn 2 217 [.int x0, .int x1] H (.inl (some (.int o)), H, 0, 0) :=
  x_meth (M := am_M217) rfl (show 2 ≤ 4 by decide) (f_217 (Nat.le_refl _) hr rfl)
abbrev P_218_11 (h : AHp) (b : Nat) (c n : Nat) (B : Md) (x1 : Int32) (x2 : Int32) (s : Int32) : ASt := (11, [some (.ref b), some (.int x1), some (.int x2), some (.int s)], [], (hput h b (Md.cells b B)), c, n)
abbrev PX_218_11 (h : AHp) (b : Nat) (c n : Nat) (B : Md) (x1 : Int32) (x2 : Int32) (s : Int32) : ASt := (41, [some (.ref b), some (.int x1), some (.int x2), some (.int s)], [], (hput h b (Md.cells b B)), c, n)
def G_218_11 (B : Md) (x1 : Int32) (x2 : Int32) (s : Int32) : Option ((Int32) ⊕ (Int32)) := 
  match s with
  | x3 =>
    (ix x3 131072).bind fun i2 =>
    if (B.places i2) = (-1) then
      some (.inr x3)
    else
      if (B.places i2) = x1 then
        some (.inr x3)
      else
        some (.inl ((x3 + 1) - (x3 + 1) / (131072 : Int32) * (131072 : Int32)))
theorem g_218_11 {d : Nat} (hd : 1 ≤ d) {scr : ASc} {res : ARe} {c n : Nat} {h : AHp} {b : Nat} (hb : b + 17 ≤ am_SB) (hh : b + 17 ≤ h.length) {B : Md} {x1 : Int32} {x2 : Int32} {s : Int32} {o : (Int32) ⊕ (Int32)} (hr : G_218_11 B x1 x2 s = some o) (ka : ∀ s, o = .inl s → Ex d am_M218 scr (P_218_11 h b c n B x1 x2 s) res) (kx : ∀ s, o = .inr s → Ex d am_M218 scr (PX_218_11 h b c n B x1 x2 s) res) : Ex d am_M218 scr (P_218_11 h b c n B x1 x2 s) res := by
  delta G_218_11 at hr
  show Ex d am_M218 scr (11, [some (.ref b), some (.int x1), some (.int x2), some (.int s)], [], (hput h b (Md.cells b B)), c, n) res
  refine x_ldan rfl rfl rfl (h_lt (i := 0) hb (by decide)) ?_
  refine x_getf rfl rfl (h_lt (i := 0) hb (by decide)) (hp_at (i := 0) hh rfl rfl) rfl ?_
  refine x_b 1 (S2 := (16, [some (.ref b), some (.int x1), some (.int x2), some (.int s)], [.int s, .ref (b + 13)], (hput h b (Md.cells b B)), c, n)) rfl ?_
  obtain ⟨i2, h3, hr⟩ := bd_some hr
  refine x_iald rfl rfl (h_lt (i := 13) hb (by decide)) (hp_at (i := 13) hh rfl rfl) h3 ?_
  refine x_b 1 (S2 := (18, [some (.ref b), some (.int x1), some (.int x2), some (.int s)], [.int (-1), .int (B.places i2)], (hput h b (Md.cells b B)), c, n)) rfl ?_
  rcases ite_some hr with ⟨h4, hr⟩ | ⟨h4, hr⟩
  · refine x_ct rfl rfl (decide_eq_true h4) ?_
    refine x_fg (Lq.s (Lq.s (Lq.s (Lq.s Lq.nil)))) ?_
    exact kx s (Option.some.inj hr).symm
  · refine x_cf rfl rfl (decide_eq_false h4) ?_
    refine x_ldan rfl rfl rfl (h_lt (i := 0) hb (by decide)) ?_
    refine x_getf rfl rfl (h_lt (i := 0) hb (by decide)) (hp_at (i := 0) hh rfl rfl) rfl ?_
    refine x_b 1 (S2 := (26, [some (.ref b), some (.int x1), some (.int x2), some (.int s)], [.int s, .ref (b + 13)], (hput h b (Md.cells b B)), c, n)) rfl ?_
    refine x_iald rfl rfl (h_lt (i := 13) hb (by decide)) (hp_at (i := 13) hh rfl rfl) h3 ?_
    refine x_b 1 (S2 := (28, [some (.ref b), some (.int x1), some (.int x2), some (.int s)], [.int x1, .int (B.places i2)], (hput h b (Md.cells b B)), c, n)) rfl ?_
    rcases ite_some hr with ⟨h5, hr⟩ | ⟨h5, hr⟩
    · refine x_ct rfl rfl (decide_eq_true h5) ?_
      refine x_fg (Lq.s (Lq.s (Lq.s (Lq.s Lq.nil)))) ?_
      exact kx s (Option.some.inj hr).symm
    · refine x_cf rfl rfl (decide_eq_false h5) ?_
      refine x_b 4 (S2 := (36, [some (.ref b), some (.int x1), some (.int x2), some (.int s)], [.int (131072 : Int32), .int (s + 1)], (hput h b (Md.cells b B)), c, n)) rfl ?_
      refine x_rem rfl rfl (by decide) ?_
      refine x_b 2 (S2 := (11, [some (.ref b), some (.int x1), some (.int x2), some (.int ((s + 1) - (s + 1) / (131072 : Int32) * (131072 : Int32)))], [], (hput h b (Md.cells b B)), c, n)) rfl ?_
      refine x_fg (Lq.s (Lq.s (Lq.s (Lq.s Lq.nil)))) ?_
      exact ka ((s + 1) - (s + 1) / (131072 : Int32) * (131072 : Int32)) (Option.some.inj hr).symm
def J_218_0_j41 (B : Md) (x1 : Int32) (x2 : Int32) (x3 : Int32) : Option (Md) :=
  (ix x3 131072).bind fun i10 =>
  if ¬ (B.places i10) = x1 then
    (some (B.w_places (upd B.places i10 x1))).bind fun B13 =>
    (ix B13.metMany 40000).bind fun i15 =>
    (some (B13.w_met (upd B13.met i15 x1))).bind fun B17 =>
    (ix B17.metMany 40000).bind fun i19 =>
    (some (B17.w_moved (upd B17.moved i19 x2))).bind fun B21 =>
    (some (B21.w_metMany (B21.metMany + 1))).bind fun B23 =>
    some B23
  else
    some B
theorem j_218_0_j41 {d : Nat} (hd : 1 ≤ d) {scr : ASc} {res : ARe} {c n : Nat} {h : AHp} {b : Nat} (hb : b + 17 ≤ am_SB) (hh : b + 17 ≤ h.length) {B : Md} {x1 : Int32} {x2 : Int32} {x3 : Int32} {o : Md} (hr : J_218_0_j41 B x1 x2 x3 = some o) (kr : res = (.inl (none), hput h b (Md.cells b o), c, n)) : Ex d am_M218 scr (41, [some (.ref b), some (.int x1), some (.int x2), some (.int x3)], [], (hput h b (Md.cells b B)), c, n) res := by
  delta J_218_0_j41 at hr
  refine x_ldan rfl rfl rfl (h_lt (i := 0) hb (by decide)) ?_
  refine x_getf rfl rfl (h_lt (i := 0) hb (by decide)) (hp_at (i := 0) hh rfl rfl) rfl ?_
  refine x_b 1 (S2 := (46, [some (.ref b), some (.int x1), some (.int x2), some (.int x3)], [.int x3, .ref (b + 13)], (hput h b (Md.cells b B)), c, n)) rfl ?_
  obtain ⟨i10, h11, hr⟩ := bd_some hr
  refine x_iald rfl rfl (h_lt (i := 13) hb (by decide)) (hp_at (i := 13) hh rfl rfl) h11 ?_
  refine x_b 1 (S2 := (48, [some (.ref b), some (.int x1), some (.int x2), some (.int x3)], [.int x1, .int (B.places i10)], (hput h b (Md.cells b B)), c, n)) rfl ?_
  rcases ite_some hr with ⟨h12, hr⟩ | ⟨h12, hr⟩
  · refine x_ct rfl rfl (decide_eq_true h12) ?_
    refine x_ldan rfl rfl rfl (h_lt (i := 0) hb (by decide)) ?_
    refine x_getf rfl rfl (h_lt (i := 0) hb (by decide)) (hp_at (i := 0) hh rfl rfl) rfl ?_
    refine x_b 2 (S2 := (58, [some (.ref b), some (.int x1), some (.int x2), some (.int x3)], [.int x1, .int x3, .ref (b + 13)], (hput h b (Md.cells b B)), c, n)) rfl ?_
    obtain ⟨B13, h14, hr⟩ := bd_some hr
    refine x_iast (H := (hput h b (Md.cells b B13))) rfl rfl (h_lt (i := 13) hb (by decide)) (hp_at (i := 13) hh rfl rfl) h11 (hp_set (i := 13) hh rfl (by decide) (Md.s_places h14)) ?_
    refine x_ldan rfl rfl rfl (h_lt (i := 0) hb (by decide)) ?_
    refine x_getf rfl rfl (h_lt (i := 0) hb (by decide)) (hp_at (i := 0) hh rfl rfl) rfl ?_
    refine x_ldan rfl rfl rfl (h_lt (i := 0) hb (by decide)) ?_
    refine x_getf rfl rfl (h_lt (i := 0) hb (by decide)) (hp_at (i := 0) hh rfl rfl) rfl ?_
    refine x_b 1 (S2 := (68, [some (.ref b), some (.int x1), some (.int x2), some (.int x3)], [.int x1, .int B13.metMany, .ref (b + 14)], (hput h b (Md.cells b B13)), c, n)) rfl ?_
    obtain ⟨i15, h16, hr⟩ := bd_some hr
    obtain ⟨B17, h18, hr⟩ := bd_some hr
    refine x_iast (H := (hput h b (Md.cells b B17))) rfl rfl (h_lt (i := 14) hb (by decide)) (hp_at (i := 14) hh rfl rfl) h16 (hp_set (i := 14) hh rfl (by decide) (Md.s_met h18)) ?_
    refine x_ldan rfl rfl rfl (h_lt (i := 0) hb (by decide)) ?_
    refine x_getf rfl rfl (h_lt (i := 0) hb (by decide)) (hp_at (i := 0) hh rfl rfl) rfl ?_
    refine x_ldan rfl rfl rfl (h_lt (i := 0) hb (by decide)) ?_
    refine x_getf rfl rfl (h_lt (i := 0) hb (by decide)) (hp_at (i := 0) hh rfl rfl) rfl ?_
    refine x_b 1 (S2 := (78, [some (.ref b), some (.int x1), some (.int x2), some (.int x3)], [.int x2, .int B17.metMany, .ref (b + 15)], (hput h b (Md.cells b B17)), c, n)) rfl ?_
    obtain ⟨i19, h20, hr⟩ := bd_some hr
    obtain ⟨B21, h22, hr⟩ := bd_some hr
    refine x_iast (H := (hput h b (Md.cells b B21))) rfl rfl (h_lt (i := 15) hb (by decide)) (hp_at (i := 15) hh rfl rfl) h20 (hp_set (i := 15) hh rfl (by decide) (Md.s_moved h22)) ?_
    refine x_ldan rfl rfl rfl (h_lt (i := 0) hb (by decide)) ?_
    refine x_b 1 (S2 := (81, [some (.ref b), some (.int x1), some (.int x2), some (.int x3)], [.ref b, .ref b], (hput h b (Md.cells b B21)), c, n)) rfl ?_
    refine x_getf rfl rfl (h_lt (i := 0) hb (by decide)) (hp_at (i := 0) hh rfl rfl) rfl ?_
    refine x_b 2 (S2 := (86, [some (.ref b), some (.int x1), some (.int x2), some (.int x3)], [.int (B21.metMany + 1), .ref b], (hput h b (Md.cells b B21)), c, n)) rfl ?_
    obtain ⟨B23, h24, hr⟩ := bd_some hr
    refine x_putf (H := (hput h b (Md.cells b B23))) rfl rfl (h_lt (i := 0) hb (by decide)) (hp_at (i := 0) hh rfl rfl) ⟨(show 26 < 28 by decide), rfl, rfl, nofun⟩ (hp_set (i := 0) hh rfl (by decide) (Md.s_metMany rfl h24)) ?_
    cases hr
    rw [kr]
    exact x_ret rfl rfl rfl
  · refine x_cf rfl rfl (decide_eq_false h12) ?_
    cases hr
    rw [kr]
    exact x_ret rfl rfl rfl
/-- PebbleProofsModel.meet(II)V -/
def F_218 (B : Md) (x1 : Int32) (x2 : Int32) : Option (Md) :=
  (lw (G_218_11 B x1 x2) 200000 ((ushr (x1 * (40503 : Int32)) 4) - (ushr (x1 * (40503 : Int32)) 4) / (131072 : Int32) * (131072 : Int32))).bind fun v8 =>
  J_218_0_j41 B x1 x2 v8
theorem f_218 {d : Nat} (hd : 1 ≤ d) {scr : ASc} {res : ARe} {c n : Nat} {h : AHp} {b : Nat} (hb : b + 17 ≤ am_SB) (hh : b + 17 ≤ h.length) {B : Md} {x1 : Int32} {x2 : Int32} {o : Md} (hr : F_218 B x1 x2 = some o) (kr : res = (.inl (none), hput h b (Md.cells b o), c, n)) : Ex d am_M218 scr (0, [some (.ref b), some (.int x1), some (.int x2), none], [], (hput h b (Md.cells b B)), c, n) res := by
  delta F_218 at hr
  refine x_b 6 (S2 := (9, [some (.ref b), some (.int x1), some (.int x2), none], [.int (131072 : Int32), .int (ushr (x1 * (40503 : Int32)) 4)], (hput h b (Md.cells b B)), c, n)) rfl ?_
  refine x_rem rfl rfl (by decide) ?_
  refine x_b 1 (S2 := (11, [some (.ref b), some (.int x1), some (.int x2), some (.int ((ushr (x1 * (40503 : Int32)) 4) - (ushr (x1 * (40503 : Int32)) 4) / (131072 : Int32) * (131072 : Int32)))], [], (hput h b (Md.cells b B)), c, n)) rfl ?_
  refine x_fg (Lq.s (Lq.s (Lq.s (Lq.s Lq.nil)))) ?_
  obtain ⟨v8, h7, hr⟩ := bd_some hr
  refine x_lw (P := P_218_11 h b c n B x1 x2) (Q := fun x => Ex d am_M218 scr (PX_218_11 h b c n B x1 x2 x) res) (fun s o h1 ka kx => g_218_11 hd hb hh h1 ka kx) _ ((ushr (x1 * (40503 : Int32)) 4) - (ushr (x1 * (40503 : Int32)) 4) / (131072 : Int32) * (131072 : Int32)) _ h7 ?_
  show Ex d am_M218 scr (41, [some (.ref b), some (.int x1), some (.int x2), some (.int v8)], [], (hput h b (Md.cells b B)), c, n) res
  refine x_fg (Lq.s (Lq.s (Lq.s (Lq.s Lq.nil)))) ?_
  exact j_218_0_j41 hd hb hh hr kr
theorem m_218 {h : AHp} {b : Nat} (hb : b + 17 ≤ am_SB) (hh : b + 17 ≤ h.length) {B : Md} {x1 : Int32} {x2 : Int32} {o : Md} (hr : F_218 B x1 x2 = some o) : Rn 2 218 [.ref b, .int x1, .int x2] (hput h b (Md.cells b B)) (.inl (none), hput h b (Md.cells b o), 0, 0) :=
  x_meth (M := am_M218) rfl (show 3 ≤ 4 by decide) (f_218 (Nat.le_refl _) hb hh hr rfl)
/-- PebbleProofsModel.on(II)I -/
def F_219 (x0 : Int32) (x1 : Int32) : Option (Int32) :=
  (F_217 15 x1).bind fun v2 =>
  if v2 = 0 then none else
  some ((x0 / v2) - (x0 / v2) / 15 * 15)
theorem f_219 {d : Nat} (hd : 2 ≤ d) {scr : ASc} {res : ARe} {c n : Nat} {H : AHp} {x0 : Int32} {x1 : Int32} {o : Int32} (hr : F_219 x0 x1 = some o) (kr : res = (.inl (some (.int o)), H, c, n)) : Ex d am_M219 scr (0, [some (.int x0), some (.int x1)], [], H, c, n) res := by
  delta F_219 at hr
  refine x_b 3 (S2 := (4, [some (.int x0), some (.int x1)], [.int x1, .int 15, .int x0], H, c, n)) rfl ?_
  obtain ⟨v2, h1, hr⟩ := bd_some hr
  refine x_c0 (m_217 h1) rfl rfl rfl rfl rfl (by omega) ?_
  rcases ite_some hr with ⟨h3, hr⟩ | ⟨h3, hr⟩
  · cases hr
  refine x_div rfl rfl h3 ?_
  refine x_b 1 (S2 := (10, [some (.int x0), some (.int x1)], [.int 15, .int (x0 / v2)], H, c, n)) rfl ?_
  refine x_rem rfl rfl (by decide) ?_
  cases hr
  rw [kr]
  exact x_ret rfl rfl am_ret_i
theorem m_219 {H : AHp} {x0 : Int32} {x1 : Int32} {o : Int32} (hr : F_219 x0 x1 = some o) : Rn 3 219 [.int x0, .int x1] H (.inl (some (.int o)), H, 0, 0) :=
  x_meth (M := am_M219) rfl (show 2 ≤ 2 by decide) (f_219 (Nat.le_refl _) hr rfl)
abbrev P_220_9 (h : AHp) (b : Nat) (c n : Nat) (x1 : Int32) (x2 : Int32) (s : Int32 × (Md)) : ASt := (9, [some (.ref b), some (.int x1), some (.int x2), some (.int s.1), none, none], [], (hput h b (Md.cells b s.2)), c, n)
abbrev PX_220_9 (h : AHp) (b : Nat) (c n : Nat) (x1 : Int32) (x2 : Int32) (s : (Md)) : ASt := (101, [none, none, none, none, none, none], [], (hput h b (Md.cells b s)), c, n)
abbrev P_220_46 (h : AHp) (b : Nat) (c n : Nat) (x1 : Int32) (x2 : Int32) (x3 : Int32) (x4 : Int32) (s : Int32 × (Md)) : ASt := (46, [some (.ref b), some (.int x1), some (.int x2), some (.int x3), some (.int x4), some (.int s.1)], [], (hput h b (Md.cells b s.2)), c, n)
abbrev PX_220_46 (h : AHp) (b : Nat) (c n : Nat) (x1 : Int32) (x2 : Int32) (x3 : Int32) (x4 : Int32) (s : (Md)) : ASt := (95, [some (.ref b), some (.int x1), some (.int x2), some (.int x3), none, none], [], (hput h b (Md.cells b s)), c, n)
def J_220_46_j89 (B : Md) (x1 : Int32) (x2 : Int32) (x3 : Int32) (x4 : Int32) (x5 : Int32) : Option ((Int32 × (Md)) ⊕ ((Md))) :=
  some (.inl ((x5 + 1), B))
theorem j_220_46_j89 {d : Nat} (hd : 3 ≤ d) {scr : ASc} {res : ARe} {c n : Nat} {h : AHp} {b : Nat} (hb : b + 17 ≤ am_SB) (hh : b + 17 ≤ h.length) {B : Md} {x1 : Int32} {x2 : Int32} {x3 : Int32} {x4 : Int32} {x5 : Int32} {o : (Int32 × (Md)) ⊕ ((Md))} (hr : J_220_46_j89 B x1 x2 x3 x4 x5 = some o) (ka : ∀ s, o = .inl s → Ex d am_M220 scr (P_220_46 h b c n x1 x2 x3 x4 s) res) (kx : ∀ s, o = .inr s → Ex d am_M220 scr (PX_220_46 h b c n x1 x2 x3 x4 s) res) : Ex d am_M220 scr (89, [some (.ref b), some (.int x1), some (.int x2), some (.int x3), some (.int x4), some (.int x5)], [], (hput h b (Md.cells b B)), c, n) res := by
  delta J_220_46_j89 at hr
  refine x_b 2 (S2 := (46, [some (.ref b), some (.int x1), some (.int x2), some (.int x3), some (.int x4), some (.int (x5 + 1))], [], (hput h b (Md.cells b B)), c, n)) rfl ?_
  refine x_fg (Lq.s (Lq.s (Lq.s (Lq.s (Lq.s (Lq.s Lq.nil)))))) ?_
  exact ka ((x5 + 1), B) (Option.some.inj hr).symm
def G_220_46 (x1 : Int32) (x2 : Int32) (x3 : Int32) (x4 : Int32) (s : Int32 × (Md)) : Option ((Int32 × (Md)) ⊕ ((Md))) := 
  match s with
  | (x5, B) =>
    (ix 0 93).bind fun i11 =>
    if (B.now i11) ≤ x5 then
      some (.inr B)
    else
      (F_175 B x3 x5).bind fun v15 =>
      if v15 = 0 then
        J_220_46_j89 B x1 x2 x3 x4 x5
      else
        (F_217 15 x5).bind fun v18 =>
        (ix x1 40000).bind fun i19 =>
        (F_218 B (x4 + v18) ((B.moved i19) + 1)).bind fun B22 =>
        J_220_46_j89 B22 x1 x2 x3 x4 x5
theorem g_220_46 {d : Nat} (hd : 3 ≤ d) {scr : ASc} {res : ARe} {c n : Nat} {h : AHp} {b : Nat} (hb : b + 17 ≤ am_SB) (hh : b + 17 ≤ h.length) {x1 : Int32} {x2 : Int32} {x3 : Int32} {x4 : Int32} {s : Int32 × (Md)} {o : (Int32 × (Md)) ⊕ ((Md))} (hr : G_220_46 x1 x2 x3 x4 s = some o) (ka : ∀ s, o = .inl s → Ex d am_M220 scr (P_220_46 h b c n x1 x2 x3 x4 s) res) (kx : ∀ s, o = .inr s → Ex d am_M220 scr (PX_220_46 h b c n x1 x2 x3 x4 s) res) : Ex d am_M220 scr (P_220_46 h b c n x1 x2 x3 x4 s) res := by
  obtain ⟨x5, B⟩ := s
  delta G_220_46 at hr
  show Ex d am_M220 scr (46, [some (.ref b), some (.int x1), some (.int x2), some (.int x3), some (.int x4), some (.int x5)], [], (hput h b (Md.cells b B)), c, n) res
  refine x_b 1 (S2 := (48, [some (.ref b), some (.int x1), some (.int x2), some (.int x3), some (.int x4), some (.int x5)], [.int x5], (hput h b (Md.cells b B)), c, n)) rfl ?_
  refine x_ldan rfl rfl rfl (h_lt (i := 0) hb (by decide)) ?_
  refine x_getf rfl rfl (h_lt (i := 0) hb (by decide)) (hp_at (i := 0) hh rfl rfl) rfl ?_
  refine x_b 1 (S2 := (53, [some (.ref b), some (.int x1), some (.int x2), some (.int x3), some (.int x4), some (.int x5)], [.int 0, .ref (b + 3), .int x5], (hput h b (Md.cells b B)), c, n)) rfl ?_
  obtain ⟨i11, h12, hr⟩ := bd_some hr
  refine x_iald rfl rfl (h_lt (i := 3) hb (by decide)) (hp_at (i := 3) hh rfl rfl) h12 ?_
  rcases ite_some hr with ⟨h13, hr⟩ | ⟨h13, hr⟩
  · refine x_ct rfl rfl (decide_eq_true h13) ?_
    refine x_fg (Lq.s (Lq.s (Lq.s (Lq.s (Lq.n (Lq.n Lq.nil)))))) ?_
    exact kx B (Option.some.inj hr).symm
  · refine x_cf rfl rfl (decide_eq_false h13) ?_
    refine x_ldan rfl rfl rfl (h_lt (i := 0) hb (by decide)) ?_
    refine x_b 2 (S2 := (61, [some (.ref b), some (.int x1), some (.int x2), some (.int x3), some (.int x4), some (.int x5)], [.int x5, .int x3, .ref b], (hput h b (Md.cells b B)), c, n)) rfl ?_
    obtain ⟨v15, h14, hr⟩ := bd_some hr
    refine x_c0 (m_175 (hp_rg hb hh rfl) h14) rfl rfl rfl rfl (am_recv_v (h_lt (i := 0) hb (by decide)) (hp_at (i := 0) hh rfl rfl) rfl) (by omega) ?_
    rcases ite_some hr with ⟨h16, hr⟩ | ⟨h16, hr⟩
    · refine x_zt rfl rfl (decide_eq_true h16) ?_
      refine x_fg (Lq.s (Lq.s (Lq.s (Lq.s (Lq.s (Lq.s Lq.nil)))))) ?_
      exact j_220_46_j89 hd hb hh hr ka kx
    · refine x_zf rfl rfl (decide_eq_false h16) ?_
      refine x_ldan rfl rfl rfl (h_lt (i := 0) hb (by decide)) ?_
      refine x_b 3 (S2 := (74, [some (.ref b), some (.int x1), some (.int x2), some (.int x3), some (.int x4), some (.int x5)], [.int x5, .int 15, .int x4, .ref b], (hput h b (Md.cells b B)), c, n)) rfl ?_
      obtain ⟨v18, h17, hr⟩ := bd_some hr
      refine x_c0 (m_217 h17) rfl rfl rfl rfl rfl (by omega) ?_
      refine x_b 1 (S2 := (78, [some (.ref b), some (.int x1), some (.int x2), some (.int x3), some (.int x4), some (.int x5)], [.int (x4 + v18), .ref b], (hput h b (Md.cells b B)), c, n)) rfl ?_
      refine x_ldan rfl rfl rfl (h_lt (i := 0) hb (by decide)) ?_
      refine x_getf rfl rfl (h_lt (i := 0) hb (by decide)) (hp_at (i := 0) hh rfl rfl) rfl ?_
      refine x_b 1 (S2 := (83, [some (.ref b), some (.int x1), some (.int x2), some (.int x3), some (.int x4), some (.int x5)], [.int x1, .ref (b + 15), .int (x4 + v18), .ref b], (hput h b (Md.cells b B)), c, n)) rfl ?_
      obtain ⟨i19, h20, hr⟩ := bd_some hr
      refine x_iald rfl rfl (h_lt (i := 15) hb (by decide)) (hp_at (i := 15) hh rfl rfl) h20 ?_
      refine x_b 2 (S2 := (86, [some (.ref b), some (.int x1), some (.int x2), some (.int x3), some (.int x4), some (.int x5)], [.int ((B.moved i19) + 1), .int (x4 + v18), .ref b], (hput h b (Md.cells b B)), c, n)) rfl ?_
      obtain ⟨B22, h21, hr⟩ := bd_some hr
      refine x_c0 (m_218 hb hh h21) rfl rfl rfl rfl (am_recv_v (h_lt (i := 0) hb (by decide)) (hp_at (i := 0) hh rfl rfl) rfl) (by omega) ?_
      refine x_fg (Lq.s (Lq.s (Lq.s (Lq.s (Lq.s (Lq.s Lq.nil)))))) ?_
      exact j_220_46_j89 hd hb hh hr ka kx
def J_220_9_j95 (B : Md) (x1 : Int32) (x2 : Int32) (x3 : Int32) : Option ((Int32 × (Md)) ⊕ ((Md))) :=
  some (.inl ((x3 + 1), B))
theorem j_220_9_j95 {d : Nat} (hd : 3 ≤ d) {scr : ASc} {res : ARe} {c n : Nat} {h : AHp} {b : Nat} (hb : b + 17 ≤ am_SB) (hh : b + 17 ≤ h.length) {B : Md} {x1 : Int32} {x2 : Int32} {x3 : Int32} {o : (Int32 × (Md)) ⊕ ((Md))} (hr : J_220_9_j95 B x1 x2 x3 = some o) (ka : ∀ s, o = .inl s → Ex d am_M220 scr (P_220_9 h b c n x1 x2 s) res) (kx : ∀ s, o = .inr s → Ex d am_M220 scr (PX_220_9 h b c n x1 x2 s) res) : Ex d am_M220 scr (95, [some (.ref b), some (.int x1), some (.int x2), some (.int x3), none, none], [], (hput h b (Md.cells b B)), c, n) res := by
  delta J_220_9_j95 at hr
  refine x_b 2 (S2 := (9, [some (.ref b), some (.int x1), some (.int x2), some (.int (x3 + 1)), none, none], [], (hput h b (Md.cells b B)), c, n)) rfl ?_
  refine x_fg (Lq.s (Lq.s (Lq.s (Lq.s (Lq.s (Lq.s Lq.nil)))))) ?_
  exact ka ((x3 + 1), B) (Option.some.inj hr).symm
def G_220_9 (x1 : Int32) (x2 : Int32) (s : Int32 × (Md)) : Option ((Int32 × (Md)) ⊕ ((Md))) := 
  match s with
  | (x3, B) =>
    (ix 0 93).bind fun i3 =>
    if (B.now i3) ≤ x3 then
      some (.inr B)
    else
      (F_219 x2 x3).bind fun v7 =>
      if 2 ≤ v7 then
        (F_217 15 x3).bind fun v10 =>
        (lw (G_220_46 x1 x2 x3 (x2 - (2 * v10))) 200000 (0, B)).bind fun B24 =>
        J_220_9_j95 B24 x1 x2 x3
      else
        J_220_9_j95 B x1 x2 x3
theorem g_220_9 {d : Nat} (hd : 3 ≤ d) {scr : ASc} {res : ARe} {c n : Nat} {h : AHp} {b : Nat} (hb : b + 17 ≤ am_SB) (hh : b + 17 ≤ h.length) {x1 : Int32} {x2 : Int32} {s : Int32 × (Md)} {o : (Int32 × (Md)) ⊕ ((Md))} (hr : G_220_9 x1 x2 s = some o) (ka : ∀ s, o = .inl s → Ex d am_M220 scr (P_220_9 h b c n x1 x2 s) res) (kx : ∀ s, o = .inr s → Ex d am_M220 scr (PX_220_9 h b c n x1 x2 s) res) : Ex d am_M220 scr (P_220_9 h b c n x1 x2 s) res := by
  obtain ⟨x3, B⟩ := s
  delta G_220_9 at hr
  show Ex d am_M220 scr (9, [some (.ref b), some (.int x1), some (.int x2), some (.int x3), none, none], [], (hput h b (Md.cells b B)), c, n) res
  refine x_b 1 (S2 := (10, [some (.ref b), some (.int x1), some (.int x2), some (.int x3), none, none], [.int x3], (hput h b (Md.cells b B)), c, n)) rfl ?_
  refine x_ldan rfl rfl rfl (h_lt (i := 0) hb (by decide)) ?_
  refine x_getf rfl rfl (h_lt (i := 0) hb (by decide)) (hp_at (i := 0) hh rfl rfl) rfl ?_
  refine x_b 1 (S2 := (15, [some (.ref b), some (.int x1), some (.int x2), some (.int x3), none, none], [.int 0, .ref (b + 3), .int x3], (hput h b (Md.cells b B)), c, n)) rfl ?_
  obtain ⟨i3, h4, hr⟩ := bd_some hr
  refine x_iald rfl rfl (h_lt (i := 3) hb (by decide)) (hp_at (i := 3) hh rfl rfl) h4 ?_
  rcases ite_some hr with ⟨h5, hr⟩ | ⟨h5, hr⟩
  · refine x_ct rfl rfl (decide_eq_true h5) ?_
    refine x_fg (Lq.n (Lq.n (Lq.n (Lq.n (Lq.s (Lq.s Lq.nil)))))) ?_
    exact kx B (Option.some.inj hr).symm
  · refine x_cf rfl rfl (decide_eq_false h5) ?_
    refine x_b 2 (S2 := (21, [some (.ref b), some (.int x1), some (.int x2), some (.int x3), none, none], [.int x3, .int x2], (hput h b (Md.cells b B)), c, n)) rfl ?_
    obtain ⟨v7, h6, hr⟩ := bd_some hr
    refine x_c0 (m_219 h6) rfl rfl rfl rfl rfl (by omega) ?_
    refine x_b 1 (S2 := (25, [some (.ref b), some (.int x1), some (.int x2), some (.int x3), none, none], [.int 2, .int v7], (hput h b (Md.cells b B)), c, n)) rfl ?_
    rcases ite_some hr with ⟨h8, hr⟩ | ⟨h8, hr⟩
    · refine x_ct rfl rfl (decide_eq_true h8) ?_
      refine x_b 4 (S2 := (36, [some (.ref b), some (.int x1), some (.int x2), some (.int x3), none, none], [.int x3, .int 15, .int 2, .int x2], (hput h b (Md.cells b B)), c, n)) rfl ?_
      obtain ⟨v10, h9, hr⟩ := bd_some hr
      refine x_c0 (m_217 h9) rfl rfl rfl rfl rfl (by omega) ?_
      refine x_b 5 (S2 := (46, [some (.ref b), some (.int x1), some (.int x2), some (.int x3), some (.int (x2 - (2 * v10))), some (.int 0)], [], (hput h b (Md.cells b B)), c, n)) rfl ?_
      refine x_fg (Lq.s (Lq.s (Lq.s (Lq.s (Lq.s (Lq.s Lq.nil)))))) ?_
      obtain ⟨B24, h23, hr⟩ := bd_some hr
      refine x_lw (P := P_220_46 h b c n x1 x2 x3 (x2 - (2 * v10))) (Q := fun x => Ex d am_M220 scr (PX_220_46 h b c n x1 x2 x3 (x2 - (2 * v10)) x) res) (fun s o h1 ka kx => g_220_46 hd hb hh h1 ka kx) _ (0, B) _ h23 ?_
      show Ex d am_M220 scr (95, [some (.ref b), some (.int x1), some (.int x2), some (.int x3), none, none], [], (hput h b (Md.cells b B24)), c, n) res
      refine x_fg (Lq.s (Lq.s (Lq.s (Lq.s (Lq.s (Lq.s Lq.nil)))))) ?_
      exact j_220_9_j95 hd hb hh hr ka kx
    · refine x_cf rfl rfl (decide_eq_false h8) ?_
      refine x_b 1 (S2 := (95, [some (.ref b), some (.int x1), some (.int x2), some (.int x3), none, none], [], (hput h b (Md.cells b B)), c, n)) rfl ?_
      refine x_fg (Lq.s (Lq.s (Lq.s (Lq.s (Lq.s (Lq.s Lq.nil)))))) ?_
      exact j_220_9_j95 hd hb hh hr ka kx
/-- PebbleProofsModel.goOn(I)V -/
def F_220 (B : Md) (x1 : Int32) : Option (Md) :=
  (ix x1 40000).bind fun i1 =>
  (lw (G_220_9 x1 (B.met i1)) 200000 (0, B)).bind fun B27 =>
  some B27
theorem f_220 {d : Nat} (hd : 3 ≤ d) {scr : ASc} {res : ARe} {c n : Nat} {h : AHp} {b : Nat} (hb : b + 17 ≤ am_SB) (hh : b + 17 ≤ h.length) {B : Md} {x1 : Int32} {o : Md} (hr : F_220 B x1 = some o) (kr : res = (.inl (none), hput h b (Md.cells b o), c, n)) : Ex d am_M220 scr (0, [some (.ref b), some (.int x1), none, none, none, none], [], (hput h b (Md.cells b B)), c, n) res := by
  delta F_220 at hr
  refine x_ldan rfl rfl rfl (h_lt (i := 0) hb (by decide)) ?_
  refine x_getf rfl rfl (h_lt (i := 0) hb (by decide)) (hp_at (i := 0) hh rfl rfl) rfl ?_
  refine x_b 1 (S2 := (5, [some (.ref b), some (.int x1), none, none, none, none], [.int x1, .ref (b + 14)], (hput h b (Md.cells b B)), c, n)) rfl ?_
  obtain ⟨i1, h2, hr⟩ := bd_some hr
  refine x_iald rfl rfl (h_lt (i := 14) hb (by decide)) (hp_at (i := 14) hh rfl rfl) h2 ?_
  refine x_b 3 (S2 := (9, [some (.ref b), some (.int x1), some (.int (B.met i1)), some (.int 0), none, none], [], (hput h b (Md.cells b B)), c, n)) rfl ?_
  refine x_fg (Lq.s (Lq.s (Lq.s (Lq.s (Lq.s (Lq.s Lq.nil)))))) ?_
  obtain ⟨B27, h26, hr⟩ := bd_some hr
  refine x_lw (P := P_220_9 h b c n x1 (B.met i1)) (Q := fun x => Ex d am_M220 scr (PX_220_9 h b c n x1 (B.met i1) x) res) (fun s o h1 ka kx => g_220_9 hd hb hh h1 ka kx) _ (0, B) _ h26 ?_
  show Ex d am_M220 scr (101, [none, none, none, none, none, none], [], (hput h b (Md.cells b B27)), c, n) res
  cases hr
  rw [kr]
  exact x_ret rfl rfl rfl
theorem m_220 {h : AHp} {b : Nat} (hb : b + 17 ≤ am_SB) (hh : b + 17 ≤ h.length) {B : Md} {x1 : Int32} {o : Md} (hr : F_220 B x1 = some o) : Rn 4 220 [.ref b, .int x1] (hput h b (Md.cells b B)) (.inl (none), hput h b (Md.cells b o), 0, 0) :=
  x_meth (M := am_M220) rfl (show 2 ≤ 6 by decide) (f_220 (Nat.le_refl _) hb hh hr rfl)
abbrev P_221_2 (h : AHp) (b : Nat) (c n : Nat)  (s : Int32 × (Md)) : ASt := (2, [some (.ref b), some (.int s.1)], [], (hput h b (Md.cells b s.2)), c, n)
abbrev PX_221_2 (h : AHp) (b : Nat) (c n : Nat)  (s : (Md)) : ASt := (21, [some (.ref b), none], [], (hput h b (Md.cells b s)), c, n)
def G_221_2  (s : Int32 × (Md)) : Option ((Int32 × (Md)) ⊕ ((Md))) := 
  match s with
  | (x1, B) =>
    if (131072 : Int32) ≤ x1 then
      some (.inr B)
    else
      (ix x1 131072).bind fun i2 =>
      (some (B.w_places (upd B.places i2 (-1)))).bind fun B4 =>
      some (.inl ((x1 + 1), B4))
theorem g_221_2 {d : Nat} (hd : 4 ≤ d) {scr : ASc} {res : ARe} {c n : Nat} {h : AHp} {b : Nat} (hb : b + 17 ≤ am_SB) (hh : b + 17 ≤ h.length)  {s : Int32 × (Md)} {o : (Int32 × (Md)) ⊕ ((Md))} (hr : G_221_2  s = some o) (ka : ∀ s, o = .inl s → Ex d am_M221 scr (P_221_2 h b c n  s) res) (kx : ∀ s, o = .inr s → Ex d am_M221 scr (PX_221_2 h b c n  s) res) : Ex d am_M221 scr (P_221_2 h b c n  s) res := by
  obtain ⟨x1, B⟩ := s
  delta G_221_2 at hr
  show Ex d am_M221 scr (2, [some (.ref b), some (.int x1)], [], (hput h b (Md.cells b B)), c, n) res
  refine x_b 2 (S2 := (5, [some (.ref b), some (.int x1)], [.int (131072 : Int32), .int x1], (hput h b (Md.cells b B)), c, n)) rfl ?_
  rcases ite_some hr with ⟨h1, hr⟩ | ⟨h1, hr⟩
  · refine x_ct rfl rfl (decide_eq_true h1) ?_
    refine x_fg (Lq.s (Lq.n Lq.nil)) ?_
    exact kx B (Option.some.inj hr).symm
  · refine x_cf rfl rfl (decide_eq_false h1) ?_
    refine x_ldan rfl rfl rfl (h_lt (i := 0) hb (by decide)) ?_
    refine x_getf rfl rfl (h_lt (i := 0) hb (by decide)) (hp_at (i := 0) hh rfl rfl) rfl ?_
    refine x_b 2 (S2 := (14, [some (.ref b), some (.int x1)], [.int (-1), .int x1, .ref (b + 13)], (hput h b (Md.cells b B)), c, n)) rfl ?_
    obtain ⟨i2, h3, hr⟩ := bd_some hr
    obtain ⟨B4, h5, hr⟩ := bd_some hr
    refine x_iast (H := (hput h b (Md.cells b B4))) rfl rfl (h_lt (i := 13) hb (by decide)) (hp_at (i := 13) hh rfl rfl) h3 (hp_set (i := 13) hh rfl (by decide) (Md.s_places h5)) ?_
    refine x_b 2 (S2 := (2, [some (.ref b), some (.int (x1 + 1))], [], (hput h b (Md.cells b B4)), c, n)) rfl ?_
    refine x_fg (Lq.s (Lq.s Lq.nil)) ?_
    exact ka ((x1 + 1), B4) (Option.some.inj hr).symm
abbrev P_221_37 (h : AHp) (b : Nat) (c n : Nat)  (s : Int32 × (Md)) : ASt := (37, [some (.ref b), some (.int s.1)], [], (hput h b (Md.cells b s.2)), c, n)
abbrev PX_221_37 (h : AHp) (b : Nat) (c n : Nat)  (s : (Md)) : ASt := (56, [none, none], [], (hput h b (Md.cells b s)), c, n)
def G_221_37  (s : Int32 × (Md)) : Option ((Int32 × (Md)) ⊕ ((Md))) := 
  match s with
  | (x1, B) =>
    if B.metMany ≤ x1 then
      some (.inr B)
    else
      (F_220 B x1).bind fun B17 =>
      some (.inl ((x1 + 1), B17))
theorem g_221_37 {d : Nat} (hd : 4 ≤ d) {scr : ASc} {res : ARe} {c n : Nat} {h : AHp} {b : Nat} (hb : b + 17 ≤ am_SB) (hh : b + 17 ≤ h.length)  {s : Int32 × (Md)} {o : (Int32 × (Md)) ⊕ ((Md))} (hr : G_221_37  s = some o) (ka : ∀ s, o = .inl s → Ex d am_M221 scr (P_221_37 h b c n  s) res) (kx : ∀ s, o = .inr s → Ex d am_M221 scr (PX_221_37 h b c n  s) res) : Ex d am_M221 scr (P_221_37 h b c n  s) res := by
  obtain ⟨x1, B⟩ := s
  delta G_221_37 at hr
  show Ex d am_M221 scr (37, [some (.ref b), some (.int x1)], [], (hput h b (Md.cells b B)), c, n) res
  refine x_b 1 (S2 := (38, [some (.ref b), some (.int x1)], [.int x1], (hput h b (Md.cells b B)), c, n)) rfl ?_
  refine x_ldan rfl rfl rfl (h_lt (i := 0) hb (by decide)) ?_
  refine x_getf rfl rfl (h_lt (i := 0) hb (by decide)) (hp_at (i := 0) hh rfl rfl) rfl ?_
  rcases ite_some hr with ⟨h15, hr⟩ | ⟨h15, hr⟩
  · refine x_ct rfl rfl (decide_eq_true h15) ?_
    refine x_fg (Lq.n (Lq.n Lq.nil)) ?_
    exact kx B (Option.some.inj hr).symm
  · refine x_cf rfl rfl (decide_eq_false h15) ?_
    refine x_ldan rfl rfl rfl (h_lt (i := 0) hb (by decide)) ?_
    refine x_b 1 (S2 := (47, [some (.ref b), some (.int x1)], [.int x1, .ref b], (hput h b (Md.cells b B)), c, n)) rfl ?_
    obtain ⟨B17, h16, hr⟩ := bd_some hr
    refine x_c0 (m_220 hb hh h16) rfl rfl rfl rfl (am_recv_v (h_lt (i := 0) hb (by decide)) (hp_at (i := 0) hh rfl rfl) rfl) (by omega) ?_
    refine x_b 2 (S2 := (37, [some (.ref b), some (.int (x1 + 1))], [], (hput h b (Md.cells b B17)), c, n)) rfl ?_
    refine x_fg (Lq.s (Lq.s Lq.nil)) ?_
    exact ka ((x1 + 1), B17) (Option.some.inj hr).symm
/-- PebbleProofsModel.layAhead()V -/
def F_221 (B : Md) : Option (Md) :=
  (lw (G_221_2 ) 200000 (0, B)).bind fun B7 =>
  (some (B7.w_metMany 0)).bind fun B9 =>
  (F_216 B9).bind fun v12 =>
  (F_218 B9 v12 0).bind fun B14 =>
  (lw (G_221_37 ) 200000 (0, B14)).bind fun B19 =>
  some B19
theorem f_221 {d : Nat} (hd : 4 ≤ d) {scr : ASc} {res : ARe} {c n : Nat} {h : AHp} {b : Nat} (hb : b + 17 ≤ am_SB) (hh : b + 17 ≤ h.length) {B : Md} {o : Md} (hr : F_221 B = some o) (kr : res = (.inl (none), hput h b (Md.cells b o), c, n)) : Ex d am_M221 scr (0, [some (.ref b), none], [], (hput h b (Md.cells b B)), c, n) res := by
  delta F_221 at hr
  refine x_b 2 (S2 := (2, [some (.ref b), some (.int 0)], [], (hput h b (Md.cells b B)), c, n)) rfl ?_
  refine x_fg (Lq.s (Lq.s Lq.nil)) ?_
  obtain ⟨B7, h6, hr⟩ := bd_some hr
  refine x_lw (P := P_221_2 h b c n ) (Q := fun x => Ex d am_M221 scr (PX_221_2 h b c n  x) res) (fun s o h1 ka kx => g_221_2 hd hb hh h1 ka kx) _ (0, B) _ h6 ?_
  show Ex d am_M221 scr (21, [some (.ref b), none], [], (hput h b (Md.cells b B7)), c, n) res
  refine x_ldan rfl rfl rfl (h_lt (i := 0) hb (by decide)) ?_
  refine x_b 1 (S2 := (23, [some (.ref b), none], [.int 0, .ref b], (hput h b (Md.cells b B7)), c, n)) rfl ?_
  obtain ⟨B9, h10, hr⟩ := bd_some hr
  refine x_putf (H := (hput h b (Md.cells b B9))) rfl rfl (h_lt (i := 0) hb (by decide)) (hp_at (i := 0) hh rfl rfl) ⟨(show 26 < 28 by decide), rfl, rfl, nofun⟩ (hp_set (i := 0) hh rfl (by decide) (Md.s_metMany rfl h10)) ?_
  refine x_ldan rfl rfl rfl (h_lt (i := 0) hb (by decide)) ?_
  refine x_ldan rfl rfl rfl (h_lt (i := 0) hb (by decide)) ?_
  obtain ⟨v12, h11, hr⟩ := bd_some hr
  refine x_c0 (m_216 (hp_rg hb hh rfl) h11) rfl rfl rfl rfl (am_recv_v (h_lt (i := 0) hb (by decide)) (hp_at (i := 0) hh rfl rfl) rfl) (by omega) ?_
  refine x_b 1 (S2 := (32, [some (.ref b), none], [.int 0, .int v12, .ref b], (hput h b (Md.cells b B9)), c, n)) rfl ?_
  obtain ⟨B14, h13, hr⟩ := bd_some hr
  refine x_c0 (m_218 hb hh h13) rfl rfl rfl rfl (am_recv_v (h_lt (i := 0) hb (by decide)) (hp_at (i := 0) hh rfl rfl) rfl) (by omega) ?_
  refine x_b 2 (S2 := (37, [some (.ref b), some (.int 0)], [], (hput h b (Md.cells b B14)), c, n)) rfl ?_
  refine x_fg (Lq.s (Lq.s Lq.nil)) ?_
  obtain ⟨B19, h18, hr⟩ := bd_some hr
  refine x_lw (P := P_221_37 h b c n ) (Q := fun x => Ex d am_M221 scr (PX_221_37 h b c n  x) res) (fun s o h1 ka kx => g_221_37 hd hb hh h1 ka kx) _ (0, B14) _ h18 ?_
  show Ex d am_M221 scr (56, [none, none], [], (hput h b (Md.cells b B19)), c, n) res
  cases hr
  rw [kr]
  exact x_ret rfl rfl rfl
theorem m_221 {h : AHp} {b : Nat} (hb : b + 17 ≤ am_SB) (hh : b + 17 ≤ h.length) {B : Md} {o : Md} (hr : F_221 B = some o) : Rn 5 221 [.ref b] (hput h b (Md.cells b B)) (.inl (none), hput h b (Md.cells b o), 0, 0) :=
  x_meth (M := am_M221) rfl (show 1 ≤ 2 by decide) (f_221 (Nat.le_refl _) hb hh hr rfl)
def J_222_0_j14 (B : Md) (t0 : Int32) : Option (Int32) :=
  if t0 = 0 ∨ t0 = 1 then some t0 else none
theorem j_222_0_j14 {d : Nat} (hd : 3 ≤ d) {scr : ASc} {res : ARe} {c n : Nat} {H : AHp} {b : Nat} {B : Md} {t0 : Int32} (hR : Rg H b (Md.cells b B)) {o : Int32} (hr : J_222_0_j14 B t0 = some o) (kr : res = (.inl (some (.int o)), H, c, n)) : Ex d am_M222 scr (14, [none], [.int t0], H, c, n) res := by
  delta J_222_0_j14 at hr
  obtain ⟨h4, hr⟩ := itn_some hr
  cases hr
  rw [kr]
  exact x_ret rfl rfl (am_ret_z h4)
/-- PebbleProofsModel.isSmall()Z -/
def F_222 (B : Md) : Option (Int32) :=
  (F_179 B).bind fun v2 =>
  if 14 < v2 then
    J_222_0_j14 B 0
  else
    J_222_0_j14 B 1
theorem f_222 {d : Nat} (hd : 3 ≤ d) {scr : ASc} {res : ARe} {c n : Nat} {H : AHp} {b : Nat} {B : Md} (hR : Rg H b (Md.cells b B)) {o : Int32} (hr : F_222 B = some o) (kr : res = (.inl (some (.int o)), H, c, n)) : Ex d am_M222 scr (0, [some (.ref b)], [], H, c, n) res := by
  delta F_222 at hr
  refine x_ldan rfl rfl rfl (hR.lt (i := 0) (show 0 < 17 by decide)) ?_
  obtain ⟨v2, h1, hr⟩ := bd_some hr
  refine x_c0 (m_179 hR h1) rfl rfl rfl rfl (am_recv_v (hR.lt (i := 0) (show 0 < 17 by decide)) (hR.at (i := 0) rfl) rfl) (by omega) ?_
  refine x_b 1 (S2 := (6, [some (.ref b)], [.int 14, .int v2], H, c, n)) rfl ?_
  rcases ite_some hr with ⟨h3, hr⟩ | ⟨h3, hr⟩
  · refine x_ct rfl rfl (decide_eq_true h3) ?_
    refine x_b 1 (S2 := (14, [some (.ref b)], [.int 0], H, c, n)) rfl ?_
    refine x_fg (Lq.n Lq.nil) ?_
    exact j_222_0_j14 hd hR hr kr
  · refine x_cf rfl rfl (decide_eq_false h3) ?_
    refine x_b 2 (S2 := (14, [some (.ref b)], [.int 1], H, c, n)) rfl ?_
    refine x_fg (Lq.n Lq.nil) ?_
    exact j_222_0_j14 hd hR hr kr
theorem m_222 {H : AHp} {b : Nat} {B : Md} (hR : Rg H b (Md.cells b B)) {o : Int32} (hr : F_222 B = some o) : Rn 4 222 [.ref b] H (.inl (some (.int o)), H, 0, 0) :=
  x_meth (M := am_M222) rfl (show 1 ≤ 1 by decide) (f_222 (Nat.le_refl _) hR hr rfl)
def J_223_0_j30 (B : Md) : Option (Int32 × (Md)) :=
  some (0, B)
theorem j_223_0_j30 {d : Nat} (hd : 5 ≤ d) {scr : ASc} {res : ARe} {c n : Nat} {h : AHp} {b : Nat} (hb : b + 17 ≤ am_SB) (hh : b + 17 ≤ h.length) {B : Md} {o : Int32 × (Md)} (hr : J_223_0_j30 B = some o) (kr : res = (.inl (some (.int o.1)), hput h b (Md.cells b o.2), c, n)) : Ex d am_M223 scr (30, [none, none, none], [], (hput h b (Md.cells b B)), c, n) res := by
  delta J_223_0_j30 at hr
  refine x_b 1 (S2 := (31, [none, none, none], [.int 0], (hput h b (Md.cells b B)), c, n)) rfl ?_
  cases hr
  rw [kr]
  exact x_ret rfl rfl am_ret_i
abbrev P_223_38 (h : AHp) (b : Nat) (c n : Nat) (B : Md) (x1 : Int32) (s : Int32) : ASt := (38, [some (.ref b), some (.int x1), some (.int s)], [], (hput h b (Md.cells b B)), c, n)
abbrev PX_223_38 (h : AHp) (b : Nat) (c n : Nat) (B : Md) (x1 : Int32) (s : Int32) : ASt := (65, [some (.ref b), none, some (.int s)], [], (hput h b (Md.cells b B)), c, n)
def G_223_38 (B : Md) (x1 : Int32) (s : Int32) : Option ((Int32) ⊕ (Int32)) := 
  match s with
  | x2 =>
    if B.metMany ≤ x2 then
      some (.inr x2)
    else
      (ix x2 40000).bind fun i18 =>
      (F_219 (B.met i18) x1).bind fun v21 =>
      if ¬ v21 = 0 then
        some (.inr x2)
      else
        some (.inl (x2 + 1))
theorem g_223_38 {d : Nat} (hd : 5 ≤ d) {scr : ASc} {res : ARe} {c n : Nat} {h : AHp} {b : Nat} (hb : b + 17 ≤ am_SB) (hh : b + 17 ≤ h.length) {B : Md} {x1 : Int32} {s : Int32} {o : (Int32) ⊕ (Int32)} (hr : G_223_38 B x1 s = some o) (ka : ∀ s, o = .inl s → Ex d am_M223 scr (P_223_38 h b c n B x1 s) res) (kx : ∀ s, o = .inr s → Ex d am_M223 scr (PX_223_38 h b c n B x1 s) res) : Ex d am_M223 scr (P_223_38 h b c n B x1 s) res := by
  delta G_223_38 at hr
  show Ex d am_M223 scr (38, [some (.ref b), some (.int x1), some (.int s)], [], (hput h b (Md.cells b B)), c, n) res
  refine x_b 1 (S2 := (39, [some (.ref b), some (.int x1), some (.int s)], [.int s], (hput h b (Md.cells b B)), c, n)) rfl ?_
  refine x_ldan rfl rfl rfl (h_lt (i := 0) hb (by decide)) ?_
  refine x_getf rfl rfl (h_lt (i := 0) hb (by decide)) (hp_at (i := 0) hh rfl rfl) rfl ?_
  rcases ite_some hr with ⟨h17, hr⟩ | ⟨h17, hr⟩
  · refine x_ct rfl rfl (decide_eq_true h17) ?_
    refine x_fg (Lq.s (Lq.n (Lq.s Lq.nil))) ?_
    exact kx s (Option.some.inj hr).symm
  · refine x_cf rfl rfl (decide_eq_false h17) ?_
    refine x_ldan rfl rfl rfl (h_lt (i := 0) hb (by decide)) ?_
    refine x_getf rfl rfl (h_lt (i := 0) hb (by decide)) (hp_at (i := 0) hh rfl rfl) rfl ?_
    refine x_b 1 (S2 := (51, [some (.ref b), some (.int x1), some (.int s)], [.int s, .ref (b + 14)], (hput h b (Md.cells b B)), c, n)) rfl ?_
    obtain ⟨i18, h19, hr⟩ := bd_some hr
    refine x_iald rfl rfl (h_lt (i := 14) hb (by decide)) (hp_at (i := 14) hh rfl rfl) h19 ?_
    refine x_b 1 (S2 := (53, [some (.ref b), some (.int x1), some (.int s)], [.int x1, .int (B.met i18)], (hput h b (Md.cells b B)), c, n)) rfl ?_
    obtain ⟨v21, h20, hr⟩ := bd_some hr
    refine x_c0 (m_219 h20) rfl rfl rfl rfl rfl (by omega) ?_
    rcases ite_some hr with ⟨h22, hr⟩ | ⟨h22, hr⟩
    · refine x_zt rfl rfl (decide_eq_true h22) ?_
      refine x_fg (Lq.s (Lq.n (Lq.s Lq.nil))) ?_
      exact kx s (Option.some.inj hr).symm
    · refine x_zf rfl rfl (decide_eq_false h22) ?_
      refine x_b 2 (S2 := (38, [some (.ref b), some (.int x1), some (.int (s + 1))], [], (hput h b (Md.cells b B)), c, n)) rfl ?_
      refine x_fg (Lq.s (Lq.s (Lq.s Lq.nil))) ?_
      exact ka (s + 1) (Option.some.inj hr).symm
def J_223_0_j96 (B : Md) (t0 : Int32) : Option (Int32 × (Md)) :=
  some (t0, B)
theorem j_223_0_j96 {d : Nat} (hd : 5 ≤ d) {scr : ASc} {res : ARe} {c n : Nat} {h : AHp} {b : Nat} (hb : b + 17 ≤ am_SB) (hh : b + 17 ≤ h.length) {B : Md} {t0 : Int32} {o : Int32 × (Md)} (hr : J_223_0_j96 B t0 = some o) (kr : res = (.inl (some (.int o.1)), hput h b (Md.cells b o.2), c, n)) : Ex d am_M223 scr (96, [none, none, none], [.int t0], (hput h b (Md.cells b B)), c, n) res := by
  delta J_223_0_j96 at hr
  cases hr
  rw [kr]
  exact x_ret rfl rfl am_ret_i
def J_223_0_j79 (B : Md) (x2 : Int32) (t0 : Int32) : Option (Int32 × (Md)) :=
  (F_135 B t0 3).bind fun (v28, B29) =>
  if v28 = 0 then
    (ix x2 40000).bind fun i31 =>
    J_223_0_j96 B29 (B29.moved i31)
  else
    J_223_0_j96 B29 0
theorem j_223_0_j79 {d : Nat} (hd : 5 ≤ d) {scr : ASc} {res : ARe} {c n : Nat} {h : AHp} {b : Nat} (hb : b + 17 ≤ am_SB) (hh : b + 17 ≤ h.length) {B : Md} {x2 : Int32} {t0 : Int32} {o : Int32 × (Md)} (hr : J_223_0_j79 B x2 t0 = some o) (kr : res = (.inl (some (.int o.1)), hput h b (Md.cells b o.2), c, n)) : Ex d am_M223 scr (79, [some (.ref b), none, some (.int x2)], [.int t0, .ref b], (hput h b (Md.cells b B)), c, n) res := by
  delta J_223_0_j79 at hr
  refine x_b 1 (S2 := (80, [some (.ref b), none, some (.int x2)], [.int 3, .int t0, .ref b], (hput h b (Md.cells b B)), c, n)) rfl ?_
  obtain ⟨⟨v28, B29⟩, h27, hr⟩ := bd_some hr
  refine x_c0 (m_135 hb hh h27) rfl rfl rfl rfl (am_recv_v (h_lt (i := 0) hb (by decide)) (hp_at (i := 0) hh rfl rfl) rfl) (by omega) ?_
  rcases ite_some hr with ⟨h30, hr⟩ | ⟨h30, hr⟩
  · refine x_zt rfl rfl (decide_eq_true h30) ?_
    refine x_ldan rfl rfl rfl (h_lt (i := 0) hb (by decide)) ?_
    refine x_getf rfl rfl (h_lt (i := 0) hb (by decide)) (hp_at (i := 0) hh rfl rfl) rfl ?_
    refine x_b 1 (S2 := (95, [some (.ref b), none, some (.int x2)], [.int x2, .ref (b + 15)], (hput h b (Md.cells b B29)), c, n)) rfl ?_
    obtain ⟨i31, h32, hr⟩ := bd_some hr
    refine x_iald rfl rfl (h_lt (i := 15) hb (by decide)) (hp_at (i := 15) hh rfl rfl) h32 ?_
    refine x_fg (Lq.n (Lq.s (Lq.n Lq.nil))) ?_
    exact j_223_0_j96 hd hb hh hr kr
  · refine x_zf rfl rfl (decide_eq_false h30) ?_
    refine x_b 2 (S2 := (96, [some (.ref b), none, some (.int x2)], [.int 0], (hput h b (Md.cells b B29)), c, n)) rfl ?_
    refine x_fg (Lq.n (Lq.s (Lq.n Lq.nil))) ?_
    exact j_223_0_j96 hd hb hh hr kr
def J_223_0_j65 (B : Md) (x2 : Int32) : Option (Int32 × (Md)) :=
  if B.metMany ≤ x2 then
    J_223_0_j79 B x2 0
  else
    J_223_0_j79 B x2 1
theorem j_223_0_j65 {d : Nat} (hd : 5 ≤ d) {scr : ASc} {res : ARe} {c n : Nat} {h : AHp} {b : Nat} (hb : b + 17 ≤ am_SB) (hh : b + 17 ≤ h.length) {B : Md} {x2 : Int32} {o : Int32 × (Md)} (hr : J_223_0_j65 B x2 = some o) (kr : res = (.inl (some (.int o.1)), hput h b (Md.cells b o.2), c, n)) : Ex d am_M223 scr (65, [some (.ref b), none, some (.int x2)], [], (hput h b (Md.cells b B)), c, n) res := by
  delta J_223_0_j65 at hr
  refine x_ldan rfl rfl rfl (h_lt (i := 0) hb (by decide)) ?_
  refine x_b 1 (S2 := (67, [some (.ref b), none, some (.int x2)], [.int x2, .ref b], (hput h b (Md.cells b B)), c, n)) rfl ?_
  refine x_ldan rfl rfl rfl (h_lt (i := 0) hb (by decide)) ?_
  refine x_getf rfl rfl (h_lt (i := 0) hb (by decide)) (hp_at (i := 0) hh rfl rfl) rfl ?_
  rcases ite_some hr with ⟨h26, hr⟩ | ⟨h26, hr⟩
  · refine x_ct rfl rfl (decide_eq_true h26) ?_
    refine x_b 1 (S2 := (79, [some (.ref b), none, some (.int x2)], [.int 0, .ref b], (hput h b (Md.cells b B)), c, n)) rfl ?_
    refine x_fg (Lq.s (Lq.s (Lq.s Lq.nil))) ?_
    exact j_223_0_j79 hd hb hh hr kr
  · refine x_cf rfl rfl (decide_eq_false h26) ?_
    refine x_b 2 (S2 := (79, [some (.ref b), none, some (.int x2)], [.int 1, .ref b], (hput h b (Md.cells b B)), c, n)) rfl ?_
    refine x_fg (Lq.s (Lq.s (Lq.s Lq.nil))) ?_
    exact j_223_0_j79 hd hb hh hr kr
/-- PebbleProofsModel.fewest(I)I -/
def F_223 (B : Md) (x1 : Int32) : Option (Int32 × (Md)) :=
  (some (B.w_thrown 0)).bind fun B1 =>
  (F_172 B1 x1).bind fun v4 =>
  (F_135 B1 v4 1).bind fun (v6, B7) =>
  if ¬ v6 = 0 then
    J_223_0_j30 B7
  else
    (F_222 B7).bind fun v10 =>
    (F_135 B7 v10 2).bind fun (v12, B13) =>
    if v12 = 0 then
      (F_221 B13).bind fun B16 =>
      (lw (G_223_38 B16 x1) 200000 0).bind fun v24 =>
      J_223_0_j65 B16 v24
    else
      J_223_0_j30 B13
theorem f_223 {d : Nat} (hd : 5 ≤ d) {scr : ASc} {res : ARe} {c n : Nat} {h : AHp} {b : Nat} (hb : b + 17 ≤ am_SB) (hh : b + 17 ≤ h.length) {B : Md} {x1 : Int32} {o : Int32 × (Md)} (hr : F_223 B x1 = some o) (kr : res = (.inl (some (.int o.1)), hput h b (Md.cells b o.2), c, n)) : Ex d am_M223 scr (0, [some (.ref b), some (.int x1), none], [], (hput h b (Md.cells b B)), c, n) res := by
  delta F_223 at hr
  refine x_ldan rfl rfl rfl (h_lt (i := 0) hb (by decide)) ?_
  refine x_b 1 (S2 := (2, [some (.ref b), some (.int x1), none], [.int 0, .ref b], (hput h b (Md.cells b B)), c, n)) rfl ?_
  obtain ⟨B1, h2, hr⟩ := bd_some hr
  refine x_putf (H := (hput h b (Md.cells b B1))) rfl rfl (h_lt (i := 0) hb (by decide)) (hp_at (i := 0) hh rfl rfl) ⟨(show 0 < 28 by decide), rfl, rfl, nofun⟩ (hp_set (i := 0) hh rfl (by decide) (Md.s_thrown rfl h2)) ?_
  refine x_ldan rfl rfl rfl (h_lt (i := 0) hb (by decide)) ?_
  refine x_ldan rfl rfl rfl (h_lt (i := 0) hb (by decide)) ?_
  refine x_b 1 (S2 := (8, [some (.ref b), some (.int x1), none], [.int x1, .ref b, .ref b], (hput h b (Md.cells b B1)), c, n)) rfl ?_
  obtain ⟨v4, h3, hr⟩ := bd_some hr
  refine x_c0 (m_172 (hp_rg hb hh rfl) h3) rfl rfl rfl rfl (am_recv_v (h_lt (i := 0) hb (by decide)) (hp_at (i := 0) hh rfl rfl) rfl) (by omega) ?_
  refine x_b 1 (S2 := (12, [some (.ref b), some (.int x1), none], [.int 1, .int v4, .ref b], (hput h b (Md.cells b B1)), c, n)) rfl ?_
  obtain ⟨⟨v6, B7⟩, h5, hr⟩ := bd_some hr
  refine x_c0 (m_135 hb hh h5) rfl rfl rfl rfl (am_recv_v (h_lt (i := 0) hb (by decide)) (hp_at (i := 0) hh rfl rfl) rfl) (by omega) ?_
  rcases ite_some hr with ⟨h8, hr⟩ | ⟨h8, hr⟩
  · refine x_zt rfl rfl (decide_eq_true h8) ?_
    refine x_fg (Lq.n (Lq.n (Lq.s Lq.nil))) ?_
    exact j_223_0_j30 hd hb hh hr kr
  · refine x_zf rfl rfl (decide_eq_false h8) ?_
    refine x_ldan rfl rfl rfl (h_lt (i := 0) hb (by decide)) ?_
    refine x_ldan rfl rfl rfl (h_lt (i := 0) hb (by decide)) ?_
    obtain ⟨v10, h9, hr⟩ := bd_some hr
    refine x_c0 (m_222 (hp_rg hb hh rfl) h9) rfl rfl rfl rfl (am_recv_v (h_lt (i := 0) hb (by decide)) (hp_at (i := 0) hh rfl rfl) rfl) (by omega) ?_
    refine x_b 1 (S2 := (24, [some (.ref b), some (.int x1), none], [.int 2, .int v10, .ref b], (hput h b (Md.cells b B7)), c, n)) rfl ?_
    obtain ⟨⟨v12, B13⟩, h11, hr⟩ := bd_some hr
    refine x_c0 (m_135 hb hh h11) rfl rfl rfl rfl (am_recv_v (h_lt (i := 0) hb (by decide)) (hp_at (i := 0) hh rfl rfl) rfl) (by omega) ?_
    rcases ite_some hr with ⟨h14, hr⟩ | ⟨h14, hr⟩
    · refine x_zt rfl rfl (decide_eq_true h14) ?_
      refine x_ldan rfl rfl rfl (h_lt (i := 0) hb (by decide)) ?_
      obtain ⟨B16, h15, hr⟩ := bd_some hr
      refine x_c0 (m_221 hb hh h15) rfl rfl rfl rfl (am_recv_v (h_lt (i := 0) hb (by decide)) (hp_at (i := 0) hh rfl rfl) rfl) (by omega) ?_
      refine x_b 2 (S2 := (38, [some (.ref b), some (.int x1), some (.int 0)], [], (hput h b (Md.cells b B16)), c, n)) rfl ?_
      refine x_fg (Lq.s (Lq.s (Lq.s Lq.nil))) ?_
      obtain ⟨v24, h23, hr⟩ := bd_some hr
      refine x_lw (P := P_223_38 h b c n B16 x1) (Q := fun x => Ex d am_M223 scr (PX_223_38 h b c n B16 x1 x) res) (fun s o h1 ka kx => g_223_38 hd hb hh h1 ka kx) _ 0 _ h23 ?_
      show Ex d am_M223 scr (65, [some (.ref b), none, some (.int v24)], [], (hput h b (Md.cells b B16)), c, n) res
      refine x_fg (Lq.s (Lq.s (Lq.s Lq.nil))) ?_
      exact j_223_0_j65 hd hb hh hr kr
    · refine x_zf rfl rfl (decide_eq_false h14) ?_
      refine x_fg (Lq.n (Lq.n (Lq.s Lq.nil))) ?_
      exact j_223_0_j30 hd hb hh hr kr
theorem m_223 {h : AHp} {b : Nat} (hb : b + 17 ≤ am_SB) (hh : b + 17 ≤ h.length) {B : Md} {x1 : Int32} {o : Int32 × (Md)} (hr : F_223 B x1 = some o) : Rn 6 223 [.ref b, .int x1] (hput h b (Md.cells b B)) (.inl (some (.int o.1)), hput h b (Md.cells b o.2), 0, 0) :=
  x_meth (M := am_M223) rfl (show 2 ≤ 3 by decide) (f_223 (Nat.le_refl _) hb hh hr rfl)
/-- PebbleProofsModel.ahead()I -/
def F_224 (B : Md) : Option (Int32 × (Md)) :=
  (some (B.w_thrown 0)).bind fun B1 =>
  (F_222 B1).bind fun v4 =>
  if ¬ v4 = 0 then
    (F_221 B1).bind fun B7 =>
    some (B7.metMany, B7)
  else
    some ((-1), B1)
theorem f_224 {d : Nat} (hd : 5 ≤ d) {scr : ASc} {res : ARe} {c n : Nat} {h : AHp} {b : Nat} (hb : b + 17 ≤ am_SB) (hh : b + 17 ≤ h.length) {B : Md} {o : Int32 × (Md)} (hr : F_224 B = some o) (kr : res = (.inl (some (.int o.1)), hput h b (Md.cells b o.2), c, n)) : Ex d am_M224 scr (0, [some (.ref b)], [], (hput h b (Md.cells b B)), c, n) res := by
  delta F_224 at hr
  refine x_ldan rfl rfl rfl (h_lt (i := 0) hb (by decide)) ?_
  refine x_b 1 (S2 := (2, [some (.ref b)], [.int 0, .ref b], (hput h b (Md.cells b B)), c, n)) rfl ?_
  obtain ⟨B1, h2, hr⟩ := bd_some hr
  refine x_putf (H := (hput h b (Md.cells b B1))) rfl rfl (h_lt (i := 0) hb (by decide)) (hp_at (i := 0) hh rfl rfl) ⟨(show 0 < 28 by decide), rfl, rfl, nofun⟩ (hp_set (i := 0) hh rfl (by decide) (Md.s_thrown rfl h2)) ?_
  refine x_ldan rfl rfl rfl (h_lt (i := 0) hb (by decide)) ?_
  obtain ⟨v4, h3, hr⟩ := bd_some hr
  refine x_c0 (m_222 (hp_rg hb hh rfl) h3) rfl rfl rfl rfl (am_recv_v (h_lt (i := 0) hb (by decide)) (hp_at (i := 0) hh rfl rfl) rfl) (by omega) ?_
  rcases ite_some hr with ⟨h5, hr⟩ | ⟨h5, hr⟩
  · refine x_zt rfl rfl (decide_eq_true h5) ?_
    refine x_ldan rfl rfl rfl (h_lt (i := 0) hb (by decide)) ?_
    obtain ⟨B7, h6, hr⟩ := bd_some hr
    refine x_c0 (m_221 hb hh h6) rfl rfl rfl rfl (am_recv_v (h_lt (i := 0) hb (by decide)) (hp_at (i := 0) hh rfl rfl) rfl) (by omega) ?_
    refine x_ldan rfl rfl rfl (h_lt (i := 0) hb (by decide)) ?_
    refine x_getf rfl rfl (h_lt (i := 0) hb (by decide)) (hp_at (i := 0) hh rfl rfl) rfl ?_
    cases hr
    rw [kr]
    exact x_ret rfl rfl am_ret_i
  · refine x_zf rfl rfl (decide_eq_false h5) ?_
    refine x_b 1 (S2 := (13, [some (.ref b)], [.int (-1)], (hput h b (Md.cells b B1)), c, n)) rfl ?_
    cases hr
    rw [kr]
    exact x_ret rfl rfl am_ret_i
theorem m_224 {h : AHp} {b : Nat} (hb : b + 17 ≤ am_SB) (hh : b + 17 ≤ h.length) {B : Md} {o : Int32 × (Md)} (hr : F_224 B = some o) : Rn 6 224 [.ref b] (hput h b (Md.cells b B)) (.inl (some (.int o.1)), hput h b (Md.cells b o.2), 0, 0) :=
  x_meth (M := am_M224) rfl (show 1 ≤ 1 by decide) (f_224 (Nat.le_refl _) hb hh hr rfl)
abbrev P_225_4 (H : AHp) (b : Nat) (c n : Nat) (B : Md) (x1 : Int32) (s : Int32 × Int32) : ASt := (4, [some (.ref b), some (.int x1), some (.int s.1), some (.int s.2)], [], H, c, n)
abbrev PX_225_4 (H : AHp) (b : Nat) (c n : Nat) (B : Md) (x1 : Int32) (s : Int32) : ASt := (36, [none, none, some (.int s), none], [], H, c, n)
def J_225_4_j28 (B : Md) (x1 : Int32) (x3 : Int32) (t0 : Int32) (t1 : Int32) : Option ((Int32 × Int32) ⊕ (Int32)) :=
  some (.inl ((t1 + t0), (x3 + 1)))
theorem j_225_4_j28 {d : Nat} (hd : 3 ≤ d) {scr : ASc} {res : ARe} {c n : Nat} {H : AHp} {b : Nat} {B : Md} {x1 : Int32} {x3 : Int32} {t0 : Int32} {t1 : Int32} (hR : Rg H b (Md.cells b B)) {o : (Int32 × Int32) ⊕ (Int32)} (hr : J_225_4_j28 B x1 x3 t0 t1 = some o) (ka : ∀ s, o = .inl s → Ex d am_M225 scr (P_225_4 H b c n B x1 s) res) (kx : ∀ s, o = .inr s → Ex d am_M225 scr (PX_225_4 H b c n B x1 s) res) : Ex d am_M225 scr (28, [some (.ref b), some (.int x1), none, some (.int x3)], [.int t0, .int t1], H, c, n) res := by
  delta J_225_4_j28 at hr
  refine x_b 4 (S2 := (4, [some (.ref b), some (.int x1), some (.int (t1 + t0)), some (.int (x3 + 1))], [], H, c, n)) rfl ?_
  refine x_fg (Lq.s (Lq.s (Lq.s (Lq.s Lq.nil)))) ?_
  exact ka ((t1 + t0), (x3 + 1)) (Option.some.inj hr).symm
def G_225_4 (B : Md) (x1 : Int32) (s : Int32 × Int32) : Option ((Int32 × Int32) ⊕ (Int32)) := 
  match s with
  | (x2, x3) =>
    (ix 0 93).bind fun i1 =>
    if (B.now i1) ≤ x3 then
      some (.inr x2)
    else
      (F_219 x1 x3).bind fun v5 =>
      if ¬ v5 = 0 then
        J_225_4_j28 B x1 x3 0 x2
      else
        J_225_4_j28 B x1 x3 1 x2
theorem g_225_4 {d : Nat} (hd : 3 ≤ d) {scr : ASc} {res : ARe} {c n : Nat} {H : AHp} {b : Nat} {B : Md} {x1 : Int32} (hR : Rg H b (Md.cells b B)) {s : Int32 × Int32} {o : (Int32 × Int32) ⊕ (Int32)} (hr : G_225_4 B x1 s = some o) (ka : ∀ s, o = .inl s → Ex d am_M225 scr (P_225_4 H b c n B x1 s) res) (kx : ∀ s, o = .inr s → Ex d am_M225 scr (PX_225_4 H b c n B x1 s) res) : Ex d am_M225 scr (P_225_4 H b c n B x1 s) res := by
  obtain ⟨x2, x3⟩ := s
  delta G_225_4 at hr
  show Ex d am_M225 scr (4, [some (.ref b), some (.int x1), some (.int x2), some (.int x3)], [], H, c, n) res
  refine x_b 1 (S2 := (5, [some (.ref b), some (.int x1), some (.int x2), some (.int x3)], [.int x3], H, c, n)) rfl ?_
  refine x_ldan rfl rfl rfl (hR.lt (i := 0) (show 0 < 17 by decide)) ?_
  refine x_getf rfl rfl (hR.lt (i := 0) (show 0 < 17 by decide)) (hR.at (i := 0) rfl) rfl ?_
  refine x_b 1 (S2 := (10, [some (.ref b), some (.int x1), some (.int x2), some (.int x3)], [.int 0, .ref (b + 3), .int x3], H, c, n)) rfl ?_
  obtain ⟨i1, h2, hr⟩ := bd_some hr
  refine x_iald rfl rfl (hR.lt (i := 3) (show 3 < 17 by decide)) (hR.at (i := 3) rfl) h2 ?_
  rcases ite_some hr with ⟨h3, hr⟩ | ⟨h3, hr⟩
  · refine x_ct rfl rfl (decide_eq_true h3) ?_
    refine x_fg (Lq.n (Lq.n (Lq.s (Lq.n Lq.nil)))) ?_
    exact kx x2 (Option.some.inj hr).symm
  · refine x_cf rfl rfl (decide_eq_false h3) ?_
    refine x_b 3 (S2 := (17, [some (.ref b), some (.int x1), some (.int x2), some (.int x3)], [.int x3, .int x1, .int x2], H, c, n)) rfl ?_
    obtain ⟨v5, h4, hr⟩ := bd_some hr
    refine x_c0 (m_219 h4) rfl rfl rfl rfl rfl (by omega) ?_
    rcases ite_some hr with ⟨h6, hr⟩ | ⟨h6, hr⟩
    · refine x_zt rfl rfl (decide_eq_true h6) ?_
      refine x_b 1 (S2 := (28, [some (.ref b), some (.int x1), some (.int x2), some (.int x3)], [.int 0, .int x2], H, c, n)) rfl ?_
      refine x_fg (Lq.s (Lq.s (Lq.n (Lq.s Lq.nil)))) ?_
      exact j_225_4_j28 hd hR hr ka kx
    · refine x_zf rfl rfl (decide_eq_false h6) ?_
      refine x_b 2 (S2 := (28, [some (.ref b), some (.int x1), some (.int x2), some (.int x3)], [.int 1, .int x2], H, c, n)) rfl ?_
      refine x_fg (Lq.s (Lq.s (Lq.n (Lq.s Lq.nil)))) ?_
      exact j_225_4_j28 hd hR hr ka kx
/-- PebbleProofsModel.emptyOf(I)I -/
def F_225 (B : Md) (x1 : Int32) : Option (Int32) :=
  (lw (G_225_4 B x1) 200000 (0, 0)).bind fun v8 =>
  some v8
theorem f_225 {d : Nat} (hd : 3 ≤ d) {scr : ASc} {res : ARe} {c n : Nat} {H : AHp} {b : Nat} {B : Md} {x1 : Int32} (hR : Rg H b (Md.cells b B)) {o : Int32} (hr : F_225 B x1 = some o) (kr : res = (.inl (some (.int o)), H, c, n)) : Ex d am_M225 scr (0, [some (.ref b), some (.int x1), none, none], [], H, c, n) res := by
  delta F_225 at hr
  refine x_b 4 (S2 := (4, [some (.ref b), some (.int x1), some (.int 0), some (.int 0)], [], H, c, n)) rfl ?_
  refine x_fg (Lq.s (Lq.s (Lq.s (Lq.s Lq.nil)))) ?_
  obtain ⟨v8, h7, hr⟩ := bd_some hr
  refine x_lw (P := P_225_4 H b c n B x1) (Q := fun x => Ex d am_M225 scr (PX_225_4 H b c n B x1 x) res) (fun s o h1 ka kx => g_225_4 hd hR h1 ka kx) _ (0, 0) _ h7 ?_
  show Ex d am_M225 scr (36, [none, none, some (.int v8), none], [], H, c, n) res
  refine x_b 1 (S2 := (37, [none, none, some (.int v8), none], [.int v8], H, c, n)) rfl ?_
  cases hr
  rw [kr]
  exact x_ret rfl rfl am_ret_i
theorem m_225 {H : AHp} {b : Nat} {B : Md} {x1 : Int32} (hR : Rg H b (Md.cells b B)) {o : Int32} (hr : F_225 B x1 = some o) : Rn 4 225 [.ref b, .int x1] H (.inl (some (.int o)), H, 0, 0) :=
  x_meth (M := am_M225) rfl (show 2 ≤ 4 by decide) (f_225 (Nat.le_refl _) hR hr rfl)
abbrev P_226_9 (h : AHp) (b : Nat) (c n : Nat) (B : Md) (s : Int32 × Int32) : ASt := (9, [some (.ref b), some (.int s.1), some (.int s.2)], [], (hput h b (Md.cells b B)), c, n)
abbrev PX_226_9 (h : AHp) (b : Nat) (c n : Nat) (B : Md) (s : Int32) : ASt := (38, [none, some (.int s), none], [], (hput h b (Md.cells b B)), c, n)
def G_226_9 (B : Md) (s : Int32 × Int32) : Option ((Int32 × Int32) ⊕ (Int32)) := 
  match s with
  | (x1, x2) =>
    if B.metMany ≤ x2 then
      some (.inr x1)
    else
      (ix x2 40000).bind fun i4 =>
      (F_225 B (B.met i4)).bind fun v7 =>
      some (.inl ((imn x1 v7), (x2 + 1)))
theorem g_226_9 {d : Nat} (hd : 5 ≤ d) {scr : ASc} {res : ARe} {c n : Nat} {h : AHp} {b : Nat} (hb : b + 17 ≤ am_SB) (hh : b + 17 ≤ h.length) {B : Md} {s : Int32 × Int32} {o : (Int32 × Int32) ⊕ (Int32)} (hr : G_226_9 B s = some o) (ka : ∀ s, o = .inl s → Ex d am_M226 scr (P_226_9 h b c n B s) res) (kx : ∀ s, o = .inr s → Ex d am_M226 scr (PX_226_9 h b c n B s) res) : Ex d am_M226 scr (P_226_9 h b c n B s) res := by
  obtain ⟨x1, x2⟩ := s
  delta G_226_9 at hr
  show Ex d am_M226 scr (9, [some (.ref b), some (.int x1), some (.int x2)], [], (hput h b (Md.cells b B)), c, n) res
  refine x_b 1 (S2 := (10, [some (.ref b), some (.int x1), some (.int x2)], [.int x2], (hput h b (Md.cells b B)), c, n)) rfl ?_
  refine x_ldan rfl rfl rfl (h_lt (i := 0) hb (by decide)) ?_
  refine x_getf rfl rfl (h_lt (i := 0) hb (by decide)) (hp_at (i := 0) hh rfl rfl) rfl ?_
  rcases ite_some hr with ⟨h3, hr⟩ | ⟨h3, hr⟩
  · refine x_ct rfl rfl (decide_eq_true h3) ?_
    refine x_fg (Lq.n (Lq.s (Lq.n Lq.nil))) ?_
    exact kx x1 (Option.some.inj hr).symm
  · refine x_cf rfl rfl (decide_eq_false h3) ?_
    refine x_b 1 (S2 := (18, [some (.ref b), some (.int x1), some (.int x2)], [.int x1], (hput h b (Md.cells b B)), c, n)) rfl ?_
    refine x_ldan rfl rfl rfl (h_lt (i := 0) hb (by decide)) ?_
    refine x_ldan rfl rfl rfl (h_lt (i := 0) hb (by decide)) ?_
    refine x_getf rfl rfl (h_lt (i := 0) hb (by decide)) (hp_at (i := 0) hh rfl rfl) rfl ?_
    refine x_b 1 (S2 := (24, [some (.ref b), some (.int x1), some (.int x2)], [.int x2, .ref (b + 14), .ref b, .int x1], (hput h b (Md.cells b B)), c, n)) rfl ?_
    obtain ⟨i4, h5, hr⟩ := bd_some hr
    refine x_iald rfl rfl (h_lt (i := 14) hb (by decide)) (hp_at (i := 14) hh rfl rfl) h5 ?_
    obtain ⟨v7, h6, hr⟩ := bd_some hr
    refine x_c0 (m_225 (hp_rg hb hh rfl) h6) rfl rfl rfl rfl (am_recv_v (h_lt (i := 0) hb (by decide)) (hp_at (i := 0) hh rfl rfl) rfl) (by omega) ?_
    refine x_b 4 (S2 := (9, [some (.ref b), some (.int (imn x1 v7)), some (.int (x2 + 1))], [], (hput h b (Md.cells b B)), c, n)) rfl ?_
    refine x_fg (Lq.s (Lq.s (Lq.s Lq.nil))) ?_
    exact ka ((imn x1 v7), (x2 + 1)) (Option.some.inj hr).symm
/-- PebbleProofsModel.fewestEmpty()I -/
def F_226 (B : Md) : Option (Int32 × (Md)) :=
  (F_221 B).bind fun B2 =>
  (lw (G_226_9 B2) 200000 (6, 0)).bind fun v9 =>
  some (v9, B2)
theorem f_226 {d : Nat} (hd : 5 ≤ d) {scr : ASc} {res : ARe} {c n : Nat} {h : AHp} {b : Nat} (hb : b + 17 ≤ am_SB) (hh : b + 17 ≤ h.length) {B : Md} {o : Int32 × (Md)} (hr : F_226 B = some o) (kr : res = (.inl (some (.int o.1)), hput h b (Md.cells b o.2), c, n)) : Ex d am_M226 scr (0, [some (.ref b), none, none], [], (hput h b (Md.cells b B)), c, n) res := by
  delta F_226 at hr
  refine x_ldan rfl rfl rfl (h_lt (i := 0) hb (by decide)) ?_
  obtain ⟨B2, h1, hr⟩ := bd_some hr
  refine x_c0 (m_221 hb hh h1) rfl rfl rfl rfl (am_recv_v (h_lt (i := 0) hb (by decide)) (hp_at (i := 0) hh rfl rfl) rfl) (by omega) ?_
  refine x_b 4 (S2 := (9, [some (.ref b), some (.int 6), some (.int 0)], [], (hput h b (Md.cells b B2)), c, n)) rfl ?_
  refine x_fg (Lq.s (Lq.s (Lq.s Lq.nil))) ?_
  obtain ⟨v9, h8, hr⟩ := bd_some hr
  refine x_lw (P := P_226_9 h b c n B2) (Q := fun x => Ex d am_M226 scr (PX_226_9 h b c n B2 x) res) (fun s o h1 ka kx => g_226_9 hd hb hh h1 ka kx) _ (6, 0) _ h8 ?_
  show Ex d am_M226 scr (38, [none, some (.int v9), none], [], (hput h b (Md.cells b B2)), c, n) res
  refine x_b 1 (S2 := (39, [none, some (.int v9), none], [.int v9], (hput h b (Md.cells b B2)), c, n)) rfl ?_
  cases hr
  rw [kr]
  exact x_ret rfl rfl am_ret_i
theorem m_226 {h : AHp} {b : Nat} (hb : b + 17 ≤ am_SB) (hh : b + 17 ≤ h.length) {B : Md} {o : Int32 × (Md)} (hr : F_226 B = some o) : Rn 6 226 [.ref b] (hput h b (Md.cells b B)) (.inl (some (.int o.1)), hput h b (Md.cells b o.2), 0, 0) :=
  x_meth (M := am_M226) rfl (show 1 ≤ 3 by decide) (f_226 (Nat.le_refl _) hb hh hr rfl)
abbrev P_227_9 (h : AHp) (b : Nat) (c n : Nat) (B : Md) (s : Int32 × Int32) : ASt := (9, [some (.ref b), none, some (.int s.1), some (.int s.2)], [], (hput h b (Md.cells b B)), c, n)
abbrev PX_227_9 (h : AHp) (b : Nat) (c n : Nat) (B : Md) (s : Int32) : ASt := (47, [none, none, some (.int s), none], [], (hput h b (Md.cells b B)), c, n)
def J_227_9_j40 (B : Md) (x3 : Int32) (t0 : Int32) : Option ((Int32 × Int32) ⊕ (Int32)) :=
  some (.inl (t0, (x3 + 1)))
theorem j_227_9_j40 {d : Nat} (hd : 5 ≤ d) {scr : ASc} {res : ARe} {c n : Nat} {h : AHp} {b : Nat} (hb : b + 17 ≤ am_SB) (hh : b + 17 ≤ h.length) {B : Md} {x3 : Int32} {t0 : Int32} {o : (Int32 × Int32) ⊕ (Int32)} (hr : J_227_9_j40 B x3 t0 = some o) (ka : ∀ s, o = .inl s → Ex d am_M227 scr (P_227_9 h b c n B s) res) (kx : ∀ s, o = .inr s → Ex d am_M227 scr (PX_227_9 h b c n B s) res) : Ex d am_M227 scr (40, [some (.ref b), none, none, some (.int x3)], [.int t0], (hput h b (Md.cells b B)), c, n) res := by
  delta J_227_9_j40 at hr
  refine x_b 3 (S2 := (9, [some (.ref b), none, some (.int t0), some (.int (x3 + 1))], [], (hput h b (Md.cells b B)), c, n)) rfl ?_
  refine x_fg (Lq.s (Lq.s (Lq.s (Lq.s Lq.nil)))) ?_
  exact ka (t0, (x3 + 1)) (Option.some.inj hr).symm
def G_227_9 (B : Md) (s : Int32 × Int32) : Option ((Int32 × Int32) ⊕ (Int32)) := 
  match s with
  | (x2, x3) =>
    if B.piles ≤ x3 then
      some (.inr x2)
    else
      (ix x3 32768).bind fun i4 =>
      if (B.isReached i4) = 0 then
        J_227_9_j40 B x3 (imx x2 (B.totals i4))
      else
        J_227_9_j40 B x3 x2
theorem g_227_9 {d : Nat} (hd : 5 ≤ d) {scr : ASc} {res : ARe} {c n : Nat} {h : AHp} {b : Nat} (hb : b + 17 ≤ am_SB) (hh : b + 17 ≤ h.length) {B : Md} {s : Int32 × Int32} {o : (Int32 × Int32) ⊕ (Int32)} (hr : G_227_9 B s = some o) (ka : ∀ s, o = .inl s → Ex d am_M227 scr (P_227_9 h b c n B s) res) (kx : ∀ s, o = .inr s → Ex d am_M227 scr (PX_227_9 h b c n B s) res) : Ex d am_M227 scr (P_227_9 h b c n B s) res := by
  obtain ⟨x2, x3⟩ := s
  delta G_227_9 at hr
  show Ex d am_M227 scr (9, [some (.ref b), none, some (.int x2), some (.int x3)], [], (hput h b (Md.cells b B)), c, n) res
  refine x_b 1 (S2 := (10, [some (.ref b), none, some (.int x2), some (.int x3)], [.int x3], (hput h b (Md.cells b B)), c, n)) rfl ?_
  refine x_ldan rfl rfl rfl (h_lt (i := 0) hb (by decide)) ?_
  refine x_getf rfl rfl (h_lt (i := 0) hb (by decide)) (hp_at (i := 0) hh rfl rfl) rfl ?_
  rcases ite_some hr with ⟨h3, hr⟩ | ⟨h3, hr⟩
  · refine x_ct rfl rfl (decide_eq_true h3) ?_
    refine x_fg (Lq.n (Lq.s (Lq.s (Lq.n Lq.nil)))) ?_
    exact kx x2 (Option.some.inj hr).symm
  · refine x_cf rfl rfl (decide_eq_false h3) ?_
    refine x_ldan rfl rfl rfl (h_lt (i := 0) hb (by decide)) ?_
    refine x_getf rfl rfl (h_lt (i := 0) hb (by decide)) (hp_at (i := 0) hh rfl rfl) rfl ?_
    refine x_b 1 (S2 := (22, [some (.ref b), none, some (.int x2), some (.int x3)], [.int x3, .ref (b + 7)], (hput h b (Md.cells b B)), c, n)) rfl ?_
    obtain ⟨i4, h5, hr⟩ := bd_some hr
    refine x_bald rfl rfl (h_lt (i := 7) hb (by decide)) (hp_at (i := 7) hh rfl rfl) h5 ?_
    rcases ite_some hr with ⟨h6, hr⟩ | ⟨h6, hr⟩
    · refine x_zt rfl rfl (decide_eq_true h6) ?_
      refine x_b 1 (S2 := (31, [some (.ref b), none, some (.int x2), some (.int x3)], [.int x2], (hput h b (Md.cells b B)), c, n)) rfl ?_
      refine x_ldan rfl rfl rfl (h_lt (i := 0) hb (by decide)) ?_
      refine x_getf rfl rfl (h_lt (i := 0) hb (by decide)) (hp_at (i := 0) hh rfl rfl) rfl ?_
      refine x_b 1 (S2 := (36, [some (.ref b), none, some (.int x2), some (.int x3)], [.int x3, .ref (b + 8), .int x2], (hput h b (Md.cells b B)), c, n)) rfl ?_
      refine x_iald rfl rfl (h_lt (i := 8) hb (by decide)) (hp_at (i := 8) hh rfl rfl) h5 ?_
      refine x_b 1 (S2 := (40, [some (.ref b), none, some (.int x2), some (.int x3)], [.int (imx x2 (B.totals i4))], (hput h b (Md.cells b B)), c, n)) rfl ?_
      refine x_fg (Lq.s (Lq.s (Lq.n (Lq.s Lq.nil)))) ?_
      exact j_227_9_j40 hd hb hh hr ka kx
    · refine x_zf rfl rfl (decide_eq_false h6) ?_
      refine x_b 2 (S2 := (40, [some (.ref b), none, some (.int x2), some (.int x3)], [.int x2], (hput h b (Md.cells b B)), c, n)) rfl ?_
      refine x_fg (Lq.s (Lq.s (Lq.n (Lq.s Lq.nil)))) ?_
      exact j_227_9_j40 hd hb hh hr ka kx
/-- PebbleProofsModel.numberOf(I)I -/
def F_227 (B : Md) (x1 : Int32) : Option (Int32 × (Md)) :=
  (F_209 B x1).bind fun B2 =>
  (lw (G_227_9 B2) 200000 (0, 0)).bind fun v8 =>
  some ((v8 + 1), B2)
theorem f_227 {d : Nat} (hd : 5 ≤ d) {scr : ASc} {res : ARe} {c n : Nat} {h : AHp} {b : Nat} (hb : b + 17 ≤ am_SB) (hh : b + 17 ≤ h.length) {B : Md} {x1 : Int32} {o : Int32 × (Md)} (hr : F_227 B x1 = some o) (kr : res = (.inl (some (.int o.1)), hput h b (Md.cells b o.2), c, n)) : Ex d am_M227 scr (0, [some (.ref b), some (.int x1), none, none], [], (hput h b (Md.cells b B)), c, n) res := by
  delta F_227 at hr
  refine x_ldan rfl rfl rfl (h_lt (i := 0) hb (by decide)) ?_
  refine x_b 1 (S2 := (2, [some (.ref b), some (.int x1), none, none], [.int x1, .ref b], (hput h b (Md.cells b B)), c, n)) rfl ?_
  obtain ⟨B2, h1, hr⟩ := bd_some hr
  refine x_c0 (m_209 hb hh h1) rfl rfl rfl rfl (am_recv_v (h_lt (i := 0) hb (by decide)) (hp_at (i := 0) hh rfl rfl) rfl) (by omega) ?_
  refine x_b 4 (S2 := (9, [some (.ref b), some (.int x1), some (.int 0), some (.int 0)], [], (hput h b (Md.cells b B2)), c, n)) rfl ?_
  refine x_fg (Lq.s (Lq.n (Lq.s (Lq.s Lq.nil)))) ?_
  obtain ⟨v8, h7, hr⟩ := bd_some hr
  refine x_lw (P := P_227_9 h b c n B2) (Q := fun x => Ex d am_M227 scr (PX_227_9 h b c n B2 x) res) (fun s o h1 ka kx => g_227_9 hd hb hh h1 ka kx) _ (0, 0) _ h7 ?_
  show Ex d am_M227 scr (47, [none, none, some (.int v8), none], [], (hput h b (Md.cells b B2)), c, n) res
  refine x_b 3 (S2 := (50, [none, none, some (.int v8), none], [.int (v8 + 1)], (hput h b (Md.cells b B2)), c, n)) rfl ?_
  cases hr
  rw [kr]
  exact x_ret rfl rfl am_ret_i
theorem m_227 {h : AHp} {b : Nat} (hb : b + 17 ≤ am_SB) (hh : b + 17 ≤ h.length) {B : Md} {x1 : Int32} {o : Int32 × (Md)} (hr : F_227 B x1 = some o) : Rn 6 227 [.ref b, .int x1] (hput h b (Md.cells b B)) (.inl (some (.int o.1)), hput h b (Md.cells b o.2), 0, 0) :=
  x_meth (M := am_M227) rfl (show 2 ≤ 4 by decide) (f_227 (Nat.le_refl _) hb hh hr rfl)
def J_228_0_j27 (B : Md) (t0 : Int32) : Option (Int32 × (Md)) :=
  some (t0, B)
theorem j_228_0_j27 {d : Nat} (hd : 6 ≤ d) {scr : ASc} {res : ARe} {c n : Nat} {h : AHp} {b : Nat} (hb : b + 17 ≤ am_SB) (hh : b + 17 ≤ h.length) {B : Md} {t0 : Int32} {o : Int32 × (Md)} (hr : J_228_0_j27 B t0 = some o) (kr : res = (.inl (some (.int o.1)), hput h b (Md.cells b o.2), c, n)) : Ex d am_M228 scr (27, [none, none], [.int t0], (hput h b (Md.cells b B)), c, n) res := by
  delta J_228_0_j27 at hr
  cases hr
  rw [kr]
  exact x_ret rfl rfl am_ret_i
/-- PebbleProofsModel.number(I)I -/
def F_228 (B : Md) (x1 : Int32) : Option (Int32 × (Md)) :=
  (some (B.w_thrown 0)).bind fun B1 =>
  (F_172 B1 x1).bind fun v4 =>
  (F_135 B1 v4 1).bind fun (v6, B7) =>
  if v6 = 0 then
    (F_227 B7 x1).bind fun (v10, B11) =>
    J_228_0_j27 B11 v10
  else
    J_228_0_j27 B7 0
theorem f_228 {d : Nat} (hd : 6 ≤ d) {scr : ASc} {res : ARe} {c n : Nat} {h : AHp} {b : Nat} (hb : b + 17 ≤ am_SB) (hh : b + 17 ≤ h.length) {B : Md} {x1 : Int32} {o : Int32 × (Md)} (hr : F_228 B x1 = some o) (kr : res = (.inl (some (.int o.1)), hput h b (Md.cells b o.2), c, n)) : Ex d am_M228 scr (0, [some (.ref b), some (.int x1)], [], (hput h b (Md.cells b B)), c, n) res := by
  delta F_228 at hr
  refine x_ldan rfl rfl rfl (h_lt (i := 0) hb (by decide)) ?_
  refine x_b 1 (S2 := (2, [some (.ref b), some (.int x1)], [.int 0, .ref b], (hput h b (Md.cells b B)), c, n)) rfl ?_
  obtain ⟨B1, h2, hr⟩ := bd_some hr
  refine x_putf (H := (hput h b (Md.cells b B1))) rfl rfl (h_lt (i := 0) hb (by decide)) (hp_at (i := 0) hh rfl rfl) ⟨(show 0 < 28 by decide), rfl, rfl, nofun⟩ (hp_set (i := 0) hh rfl (by decide) (Md.s_thrown rfl h2)) ?_
  refine x_ldan rfl rfl rfl (h_lt (i := 0) hb (by decide)) ?_
  refine x_ldan rfl rfl rfl (h_lt (i := 0) hb (by decide)) ?_
  refine x_b 1 (S2 := (8, [some (.ref b), some (.int x1)], [.int x1, .ref b, .ref b], (hput h b (Md.cells b B1)), c, n)) rfl ?_
  obtain ⟨v4, h3, hr⟩ := bd_some hr
  refine x_c0 (m_172 (hp_rg hb hh rfl) h3) rfl rfl rfl rfl (am_recv_v (h_lt (i := 0) hb (by decide)) (hp_at (i := 0) hh rfl rfl) rfl) (by omega) ?_
  refine x_b 1 (S2 := (12, [some (.ref b), some (.int x1)], [.int 1, .int v4, .ref b], (hput h b (Md.cells b B1)), c, n)) rfl ?_
  obtain ⟨⟨v6, B7⟩, h5, hr⟩ := bd_some hr
  refine x_c0 (m_135 hb hh h5) rfl rfl rfl rfl (am_recv_v (h_lt (i := 0) hb (by decide)) (hp_at (i := 0) hh rfl rfl) rfl) (by omega) ?_
  rcases ite_some hr with ⟨h8, hr⟩ | ⟨h8, hr⟩
  · refine x_zt rfl rfl (decide_eq_true h8) ?_
    refine x_ldan rfl rfl rfl (h_lt (i := 0) hb (by decide)) ?_
    refine x_b 1 (S2 := (24, [some (.ref b), some (.int x1)], [.int x1, .ref b], (hput h b (Md.cells b B7)), c, n)) rfl ?_
    obtain ⟨⟨v10, B11⟩, h9, hr⟩ := bd_some hr
    refine x_c0 (m_227 hb hh h9) rfl rfl rfl rfl (am_recv_v (h_lt (i := 0) hb (by decide)) (hp_at (i := 0) hh rfl rfl) rfl) (by omega) ?_
    refine x_fg (Lq.n (Lq.n Lq.nil)) ?_
    exact j_228_0_j27 hd hb hh hr kr
  · refine x_zf rfl rfl (decide_eq_false h8) ?_
    refine x_b 2 (S2 := (27, [some (.ref b), some (.int x1)], [.int 0], (hput h b (Md.cells b B7)), c, n)) rfl ?_
    refine x_fg (Lq.n (Lq.n Lq.nil)) ?_
    exact j_228_0_j27 hd hb hh hr kr
theorem m_228 {h : AHp} {b : Nat} (hb : b + 17 ≤ am_SB) (hh : b + 17 ≤ h.length) {B : Md} {x1 : Int32} {o : Int32 × (Md)} (hr : F_228 B x1 = some o) : Rn 7 228 [.ref b, .int x1] (hput h b (Md.cells b B)) (.inl (some (.int o.1)), hput h b (Md.cells b o.2), 0, 0) :=
  x_meth (M := am_M228) rfl (show 2 ≤ 2 by decide) (f_228 (Nat.le_refl _) hb hh hr rfl)
abbrev P_229_9 (h : AHp) (b : Nat) (c n : Nat)  (s : Int32 × Int32 × (Md)) : ASt := (9, [some (.ref b), some (.int s.1), some (.int s.2.1)], [], (hput h b (Md.cells b s.2.2)), c, n)
abbrev PX_229_9 (h : AHp) (b : Nat) (c n : Nat)  (s : Int32 × (Md)) : ASt := (35, [none, some (.int s.1), none], [], (hput h b (Md.cells b s.2)), c, n)
def G_229_9  (s : Int32 × Int32 × (Md)) : Option ((Int32 × Int32 × (Md)) ⊕ (Int32 × (Md))) := 
  match s with
  | (x1, x2, B) =>
    (ix 0 93).bind fun i3 =>
    if (B.now i3) ≤ x2 then
      some (.inr (x1, B))
    else
      (F_227 B x2).bind fun (v7, B8) =>
      some (.inl ((imx x1 v7), (x2 + 1), B8))
theorem g_229_9 {d : Nat} (hd : 6 ≤ d) {scr : ASc} {res : ARe} {c n : Nat} {h : AHp} {b : Nat} (hb : b + 17 ≤ am_SB) (hh : b + 17 ≤ h.length)  {s : Int32 × Int32 × (Md)} {o : (Int32 × Int32 × (Md)) ⊕ (Int32 × (Md))} (hr : G_229_9  s = some o) (ka : ∀ s, o = .inl s → Ex d am_M229 scr (P_229_9 h b c n  s) res) (kx : ∀ s, o = .inr s → Ex d am_M229 scr (PX_229_9 h b c n  s) res) : Ex d am_M229 scr (P_229_9 h b c n  s) res := by
  obtain ⟨x1, x2, B⟩ := s
  delta G_229_9 at hr
  show Ex d am_M229 scr (9, [some (.ref b), some (.int x1), some (.int x2)], [], (hput h b (Md.cells b B)), c, n) res
  refine x_b 1 (S2 := (10, [some (.ref b), some (.int x1), some (.int x2)], [.int x2], (hput h b (Md.cells b B)), c, n)) rfl ?_
  refine x_ldan rfl rfl rfl (h_lt (i := 0) hb (by decide)) ?_
  refine x_getf rfl rfl (h_lt (i := 0) hb (by decide)) (hp_at (i := 0) hh rfl rfl) rfl ?_
  refine x_b 1 (S2 := (15, [some (.ref b), some (.int x1), some (.int x2)], [.int 0, .ref (b + 3), .int x2], (hput h b (Md.cells b B)), c, n)) rfl ?_
  obtain ⟨i3, h4, hr⟩ := bd_some hr
  refine x_iald rfl rfl (h_lt (i := 3) hb (by decide)) (hp_at (i := 3) hh rfl rfl) h4 ?_
  rcases ite_some hr with ⟨h5, hr⟩ | ⟨h5, hr⟩
  · refine x_ct rfl rfl (decide_eq_true h5) ?_
    refine x_fg (Lq.n (Lq.s (Lq.n Lq.nil))) ?_
    exact kx (x1, B) (Option.some.inj hr).symm
  · refine x_cf rfl rfl (decide_eq_false h5) ?_
    refine x_b 1 (S2 := (20, [some (.ref b), some (.int x1), some (.int x2)], [.int x1], (hput h b (Md.cells b B)), c, n)) rfl ?_
    refine x_ldan rfl rfl rfl (h_lt (i := 0) hb (by decide)) ?_
    refine x_b 1 (S2 := (22, [some (.ref b), some (.int x1), some (.int x2)], [.int x2, .ref b, .int x1], (hput h b (Md.cells b B)), c, n)) rfl ?_
    obtain ⟨⟨v7, B8⟩, h6, hr⟩ := bd_some hr
    refine x_c0 (m_227 hb hh h6) rfl rfl rfl rfl (am_recv_v (h_lt (i := 0) hb (by decide)) (hp_at (i := 0) hh rfl rfl) rfl) (by omega) ?_
    refine x_b 4 (S2 := (9, [some (.ref b), some (.int (imx x1 v7)), some (.int (x2 + 1))], [], (hput h b (Md.cells b B8)), c, n)) rfl ?_
    refine x_fg (Lq.s (Lq.s (Lq.s Lq.nil))) ?_
    exact ka ((imx x1 v7), (x2 + 1), B8) (Option.some.inj hr).symm
/-- PebbleProofsModel.graphNumber()I -/
def F_229 (B : Md) : Option (Int32 × (Md)) :=
  (some (B.w_thrown 0)).bind fun B1 =>
  (lw (G_229_9 ) 200000 (0, 0, B1)).bind fun (v10, B11) =>
  some (v10, B11)
theorem f_229 {d : Nat} (hd : 6 ≤ d) {scr : ASc} {res : ARe} {c n : Nat} {h : AHp} {b : Nat} (hb : b + 17 ≤ am_SB) (hh : b + 17 ≤ h.length) {B : Md} {o : Int32 × (Md)} (hr : F_229 B = some o) (kr : res = (.inl (some (.int o.1)), hput h b (Md.cells b o.2), c, n)) : Ex d am_M229 scr (0, [some (.ref b), none, none], [], (hput h b (Md.cells b B)), c, n) res := by
  delta F_229 at hr
  refine x_ldan rfl rfl rfl (h_lt (i := 0) hb (by decide)) ?_
  refine x_b 1 (S2 := (2, [some (.ref b), none, none], [.int 0, .ref b], (hput h b (Md.cells b B)), c, n)) rfl ?_
  obtain ⟨B1, h2, hr⟩ := bd_some hr
  refine x_putf (H := (hput h b (Md.cells b B1))) rfl rfl (h_lt (i := 0) hb (by decide)) (hp_at (i := 0) hh rfl rfl) ⟨(show 0 < 28 by decide), rfl, rfl, nofun⟩ (hp_set (i := 0) hh rfl (by decide) (Md.s_thrown rfl h2)) ?_
  refine x_b 4 (S2 := (9, [some (.ref b), some (.int 0), some (.int 0)], [], (hput h b (Md.cells b B1)), c, n)) rfl ?_
  refine x_fg (Lq.s (Lq.s (Lq.s Lq.nil))) ?_
  obtain ⟨o12, h9, hr⟩ := bd_some hr
  refine x_lw (P := P_229_9 h b c n ) (Q := fun x => Ex d am_M229 scr (PX_229_9 h b c n  x) res) (fun s o h1 ka kx => g_229_9 hd hb hh h1 ka kx) _ (0, 0, B1) _ h9 ?_
  obtain ⟨v10, B11⟩ := o12
  show Ex d am_M229 scr (35, [none, some (.int v10), none], [], (hput h b (Md.cells b B11)), c, n) res
  refine x_b 1 (S2 := (36, [none, some (.int v10), none], [.int v10], (hput h b (Md.cells b B11)), c, n)) rfl ?_
  cases hr
  rw [kr]
  exact x_ret rfl rfl am_ret_i
theorem m_229 {h : AHp} {b : Nat} (hb : b + 17 ≤ am_SB) (hh : b + 17 ≤ h.length) {B : Md} {o : Int32 × (Md)} (hr : F_229 B = some o) : Rn 7 229 [.ref b] (hput h b (Md.cells b B)) (.inl (some (.int o.1)), hput h b (Md.cells b o.2), 0, 0) :=
  x_meth (M := am_M229) rfl (show 1 ≤ 3 by decide) (f_229 (Nat.le_refl _) hb hh hr rfl)
def J_230_0_j24 (B : Md) (t0 : Int32) : Option (Int32) :=
  if t0 = 0 ∨ t0 = 1 then some t0 else none
theorem j_230_0_j24 {d : Nat} (hd : 1 ≤ d) {scr : ASc} {res : ARe} {c n : Nat} {H : AHp} {b : Nat} {B : Md} {t0 : Int32} (hR : Rg H b (Md.cells b B)) {o : Int32} (hr : J_230_0_j24 B t0 = some o) (kr : res = (.inl (some (.int o)), H, c, n)) : Ex d am_M230 scr (24, [none, none, none], [.int t0], H, c, n) res := by
  delta J_230_0_j24 at hr
  obtain ⟨h4, hr⟩ := itn_some hr
  cases hr
  rw [kr]
  exact x_ret rfl rfl (am_ret_z h4)
def J_230_0_j23 (B : Md) : Option (Int32) :=
  J_230_0_j24 B 0
theorem j_230_0_j23 {d : Nat} (hd : 1 ≤ d) {scr : ASc} {res : ARe} {c n : Nat} {H : AHp} {b : Nat} {B : Md} (hR : Rg H b (Md.cells b B)) {o : Int32} (hr : J_230_0_j23 B = some o) (kr : res = (.inl (some (.int o)), H, c, n)) : Ex d am_M230 scr (23, [none, none, none], [], H, c, n) res := by
  delta J_230_0_j23 at hr
  refine x_b 1 (S2 := (24, [none, none, none], [.int 0], H, c, n)) rfl ?_
  refine x_fg (Lq.s (Lq.s (Lq.s Lq.nil))) ?_
  exact j_230_0_j24 hd hR hr kr
/-- PebbleProofsModel.isShort(II)Z -/
def F_230 (B : Md) (x1 : Int32) (x2 : Int32) : Option (Int32) :=
  (ix x1 32768).bind fun i1 =>
  if ¬ (B.isReached i1) = 0 then
    J_230_0_j23 B
  else
    if ¬ (B.totals i1) = x2 then
      J_230_0_j23 B
    else
      J_230_0_j24 B 1
theorem f_230 {d : Nat} (hd : 1 ≤ d) {scr : ASc} {res : ARe} {c n : Nat} {H : AHp} {b : Nat} {B : Md} {x1 : Int32} {x2 : Int32} (hR : Rg H b (Md.cells b B)) {o : Int32} (hr : F_230 B x1 x2 = some o) (kr : res = (.inl (some (.int o)), H, c, n)) : Ex d am_M230 scr (0, [some (.ref b), some (.int x1), some (.int x2)], [], H, c, n) res := by
  delta F_230 at hr
  refine x_ldan rfl rfl rfl (hR.lt (i := 0) (show 0 < 17 by decide)) ?_
  refine x_getf rfl rfl (hR.lt (i := 0) (show 0 < 17 by decide)) (hR.at (i := 0) rfl) rfl ?_
  refine x_b 1 (S2 := (5, [some (.ref b), some (.int x1), some (.int x2)], [.int x1, .ref (b + 7)], H, c, n)) rfl ?_
  obtain ⟨i1, h2, hr⟩ := bd_some hr
  refine x_bald rfl rfl (hR.lt (i := 7) (show 7 < 17 by decide)) (hR.at (i := 7) rfl) h2 ?_
  rcases ite_some hr with ⟨h3, hr⟩ | ⟨h3, hr⟩
  · refine x_zt rfl rfl (decide_eq_true h3) ?_
    refine x_fg (Lq.n (Lq.n (Lq.n Lq.nil))) ?_
    exact j_230_0_j23 hd hR hr kr
  · refine x_zf rfl rfl (decide_eq_false h3) ?_
    refine x_ldan rfl rfl rfl (hR.lt (i := 0) (show 0 < 17 by decide)) ?_
    refine x_getf rfl rfl (hR.lt (i := 0) (show 0 < 17 by decide)) (hR.at (i := 0) rfl) rfl ?_
    refine x_b 1 (S2 := (14, [some (.ref b), some (.int x1), some (.int x2)], [.int x1, .ref (b + 8)], H, c, n)) rfl ?_
    refine x_iald rfl rfl (hR.lt (i := 8) (show 8 < 17 by decide)) (hR.at (i := 8) rfl) h2 ?_
    refine x_b 1 (S2 := (16, [some (.ref b), some (.int x1), some (.int x2)], [.int x2, .int (B.totals i1)], H, c, n)) rfl ?_
    rcases ite_some hr with ⟨h5, hr⟩ | ⟨h5, hr⟩
    · refine x_ct rfl rfl (decide_eq_true h5) ?_
      refine x_fg (Lq.n (Lq.n (Lq.n Lq.nil))) ?_
      exact j_230_0_j23 hd hR hr kr
    · refine x_cf rfl rfl (decide_eq_false h5) ?_
      refine x_b 2 (S2 := (24, [some (.ref b), some (.int x1), some (.int x2)], [.int 1], H, c, n)) rfl ?_
      refine x_fg (Lq.n (Lq.n (Lq.n Lq.nil))) ?_
      exact j_230_0_j24 hd hR hr kr
theorem m_230 {H : AHp} {b : Nat} {B : Md} {x1 : Int32} {x2 : Int32} (hR : Rg H b (Md.cells b B)) {o : Int32} (hr : F_230 B x1 x2 = some o) : Rn 2 230 [.ref b, .int x1, .int x2] H (.inl (some (.int o)), H, 0, 0) :=
  x_meth (M := am_M230) rfl (show 3 ≤ 3 by decide) (f_230 (Nat.le_refl _) hR hr rfl)
abbrev P_231_32 (h : AHp) (b : Nat) (c n : Nat) (B : Md) (x2 : Int32) (x3 : Int32) (s : Int32) : ASt := (32, [some (.ref b), none, some (.int x2), some (.int x3), some (.int s)], [], (hput h b (Md.cells b B)), c, n)
abbrev PX_231_32 (h : AHp) (b : Nat) (c n : Nat) (B : Md) (x2 : Int32) (x3 : Int32) (s : Int32) : ASt := (48, [some (.ref b), none, some (.int x2), none, some (.int s)], [], (hput h b (Md.cells b B)), c, n)
def G_231_32 (B : Md) (x2 : Int32) (x3 : Int32) (s : Int32) : Option ((Int32) ⊕ (Int32)) := 
  match s with
  | x4 =>
    (F_230 B x4 x3).bind fun v13 =>
    if ¬ v13 = 0 then
      some (.inr x4)
    else
      some (.inl (x4 + 1))
theorem g_231_32 {d : Nat} (hd : 6 ≤ d) {scr : ASc} {res : ARe} {c n : Nat} {h : AHp} {b : Nat} (hb : b + 17 ≤ am_SB) (hh : b + 17 ≤ h.length) {B : Md} {x2 : Int32} {x3 : Int32} {s : Int32} {o : (Int32) ⊕ (Int32)} (hr : G_231_32 B x2 x3 s = some o) (ka : ∀ s, o = .inl s → Ex d am_M231 scr (P_231_32 h b c n B x2 x3 s) res) (kx : ∀ s, o = .inr s → Ex d am_M231 scr (PX_231_32 h b c n B x2 x3 s) res) : Ex d am_M231 scr (P_231_32 h b c n B x2 x3 s) res := by
  delta G_231_32 at hr
  show Ex d am_M231 scr (32, [some (.ref b), none, some (.int x2), some (.int x3), some (.int s)], [], (hput h b (Md.cells b B)), c, n) res
  refine x_ldan rfl rfl rfl (h_lt (i := 0) hb (by decide)) ?_
  refine x_b 2 (S2 := (36, [some (.ref b), none, some (.int x2), some (.int x3), some (.int s)], [.int x3, .int s, .ref b], (hput h b (Md.cells b B)), c, n)) rfl ?_
  obtain ⟨v13, h12, hr⟩ := bd_some hr
  refine x_c0 (m_230 (hp_rg hb hh rfl) h12) rfl rfl rfl rfl (am_recv_v (h_lt (i := 0) hb (by decide)) (hp_at (i := 0) hh rfl rfl) rfl) (by omega) ?_
  rcases ite_some hr with ⟨h14, hr⟩ | ⟨h14, hr⟩
  · refine x_zt rfl rfl (decide_eq_true h14) ?_
    refine x_fg (Lq.s (Lq.s (Lq.s (Lq.n (Lq.s Lq.nil))))) ?_
    exact kx s (Option.some.inj hr).symm
  · refine x_zf rfl rfl (decide_eq_false h14) ?_
    refine x_b 2 (S2 := (32, [some (.ref b), none, some (.int x2), some (.int x3), some (.int (s + 1))], [], (hput h b (Md.cells b B)), c, n)) rfl ?_
    refine x_fg (Lq.s (Lq.s (Lq.s (Lq.s (Lq.s Lq.nil))))) ?_
    exact ka (s + 1) (Option.some.inj hr).symm
/-- PebbleProofsModel.worst(II)I -/
def F_231 (B : Md) (x1 : Int32) (x2 : Int32) : Option (Int32 × (Md)) :=
  (some (B.w_thrown 0)).bind fun B1 =>
  (F_173 B1 x1 x2).bind fun v4 =>
  (F_135 B1 v4 1).bind fun (v6, B7) =>
  if v6 = 0 then
    (F_227 B7 x1).bind fun (v10, B11) =>
    (lw (G_231_32 B11 x2 (v10 - 1)) 200000 0).bind fun v16 =>
    (F_205 B11 v16 x2).bind fun v19 =>
    some (v19, B11)
  else
    some (0, B7)
theorem f_231 {d : Nat} (hd : 6 ≤ d) {scr : ASc} {res : ARe} {c n : Nat} {h : AHp} {b : Nat} (hb : b + 17 ≤ am_SB) (hh : b + 17 ≤ h.length) {B : Md} {x1 : Int32} {x2 : Int32} {o : Int32 × (Md)} (hr : F_231 B x1 x2 = some o) (kr : res = (.inl (some (.int o.1)), hput h b (Md.cells b o.2), c, n)) : Ex d am_M231 scr (0, [some (.ref b), some (.int x1), some (.int x2), none, none], [], (hput h b (Md.cells b B)), c, n) res := by
  delta F_231 at hr
  refine x_ldan rfl rfl rfl (h_lt (i := 0) hb (by decide)) ?_
  refine x_b 1 (S2 := (2, [some (.ref b), some (.int x1), some (.int x2), none, none], [.int 0, .ref b], (hput h b (Md.cells b B)), c, n)) rfl ?_
  obtain ⟨B1, h2, hr⟩ := bd_some hr
  refine x_putf (H := (hput h b (Md.cells b B1))) rfl rfl (h_lt (i := 0) hb (by decide)) (hp_at (i := 0) hh rfl rfl) ⟨(show 0 < 28 by decide), rfl, rfl, nofun⟩ (hp_set (i := 0) hh rfl (by decide) (Md.s_thrown rfl h2)) ?_
  refine x_ldan rfl rfl rfl (h_lt (i := 0) hb (by decide)) ?_
  refine x_ldan rfl rfl rfl (h_lt (i := 0) hb (by decide)) ?_
  refine x_b 2 (S2 := (9, [some (.ref b), some (.int x1), some (.int x2), none, none], [.int x2, .int x1, .ref b, .ref b], (hput h b (Md.cells b B1)), c, n)) rfl ?_
  obtain ⟨v4, h3, hr⟩ := bd_some hr
  refine x_c0 (m_173 (hp_rg hb hh rfl) h3) rfl rfl rfl rfl (am_recv_v (h_lt (i := 0) hb (by decide)) (hp_at (i := 0) hh rfl rfl) rfl) (by omega) ?_
  refine x_b 1 (S2 := (13, [some (.ref b), some (.int x1), some (.int x2), none, none], [.int 1, .int v4, .ref b], (hput h b (Md.cells b B1)), c, n)) rfl ?_
  obtain ⟨⟨v6, B7⟩, h5, hr⟩ := bd_some hr
  refine x_c0 (m_135 hb hh h5) rfl rfl rfl rfl (am_recv_v (h_lt (i := 0) hb (by decide)) (hp_at (i := 0) hh rfl rfl) rfl) (by omega) ?_
  rcases ite_some hr with ⟨h8, hr⟩ | ⟨h8, hr⟩
  · refine x_zt rfl rfl (decide_eq_true h8) ?_
    refine x_ldan rfl rfl rfl (h_lt (i := 0) hb (by decide)) ?_
    refine x_b 1 (S2 := (23, [some (.ref b), some (.int x1), some (.int x2), none, none], [.int x1, .ref b], (hput h b (Md.cells b B7)), c, n)) rfl ?_
    obtain ⟨⟨v10, B11⟩, h9, hr⟩ := bd_some hr
    refine x_c0 (m_227 hb hh h9) rfl rfl rfl rfl (am_recv_v (h_lt (i := 0) hb (by decide)) (hp_at (i := 0) hh rfl rfl) rfl) (by omega) ?_
    refine x_b 5 (S2 := (32, [some (.ref b), some (.int x1), some (.int x2), some (.int (v10 - 1)), some (.int 0)], [], (hput h b (Md.cells b B11)), c, n)) rfl ?_
    refine x_fg (Lq.s (Lq.n (Lq.s (Lq.s (Lq.s Lq.nil))))) ?_
    obtain ⟨v16, h15, hr⟩ := bd_some hr
    refine x_lw (P := P_231_32 h b c n B11 x2 (v10 - 1)) (Q := fun x => Ex d am_M231 scr (PX_231_32 h b c n B11 x2 (v10 - 1) x) res) (fun s o h1 ka kx => g_231_32 hd hb hh h1 ka kx) _ 0 _ h15 ?_
    show Ex d am_M231 scr (48, [some (.ref b), none, some (.int x2), none, some (.int v16)], [], (hput h b (Md.cells b B11)), c, n) res
    refine x_ldan rfl rfl rfl (h_lt (i := 0) hb (by decide)) ?_
    refine x_b 2 (S2 := (52, [some (.ref b), none, some (.int x2), none, some (.int v16)], [.int x2, .int v16, .ref b], (hput h b (Md.cells b B11)), c, n)) rfl ?_
    obtain ⟨v19, h18, hr⟩ := bd_some hr
    refine x_c0 (m_205 (hp_rg hb hh rfl) h18) rfl rfl rfl rfl (am_recv_v (h_lt (i := 0) hb (by decide)) (hp_at (i := 0) hh rfl rfl) rfl) (by omega) ?_
    cases hr
    rw [kr]
    exact x_ret rfl rfl am_ret_i
  · refine x_zf rfl rfl (decide_eq_false h8) ?_
    refine x_b 1 (S2 := (20, [some (.ref b), some (.int x1), some (.int x2), none, none], [.int 0], (hput h b (Md.cells b B7)), c, n)) rfl ?_
    cases hr
    rw [kr]
    exact x_ret rfl rfl am_ret_i
theorem m_231 {h : AHp} {b : Nat} (hb : b + 17 ≤ am_SB) (hh : b + 17 ≤ h.length) {B : Md} {x1 : Int32} {x2 : Int32} {o : Int32 × (Md)} (hr : F_231 B x1 x2 = some o) : Rn 7 231 [.ref b, .int x1, .int x2] (hput h b (Md.cells b B)) (.inl (some (.int o.1)), hput h b (Md.cells b o.2), 0, 0) :=
  x_meth (M := am_M231) rfl (show 3 ≤ 5 by decide) (f_231 (Nat.le_refl _) hb hh hr rfl)
abbrev P_232_4 (H : AHp) (b : Nat) (c n : Nat) (B : Md) (x1 : Int32) (s : Int32 × Int32) : ASt := (4, [some (.ref b), some (.int x1), some (.int s.1), some (.int s.2)], [], H, c, n)
abbrev PX_232_4 (H : AHp) (b : Nat) (c n : Nat) (B : Md) (x1 : Int32) (s : Int32) : ASt := (35, [none, none, some (.int s), none], [], H, c, n)
def J_232_4_j27 (B : Md) (x1 : Int32) (x3 : Int32) (t0 : Int32) (t1 : Int32) : Option ((Int32 × Int32) ⊕ (Int32)) :=
  some (.inl ((t1 + t0), (x3 + 1)))
theorem j_232_4_j27 {d : Nat} (hd : 2 ≤ d) {scr : ASc} {res : ARe} {c n : Nat} {H : AHp} {b : Nat} {B : Md} {x1 : Int32} {x3 : Int32} {t0 : Int32} {t1 : Int32} (hR : Rg H b (Md.cells b B)) {o : (Int32 × Int32) ⊕ (Int32)} (hr : J_232_4_j27 B x1 x3 t0 t1 = some o) (ka : ∀ s, o = .inl s → Ex d am_M232 scr (P_232_4 H b c n B x1 s) res) (kx : ∀ s, o = .inr s → Ex d am_M232 scr (PX_232_4 H b c n B x1 s) res) : Ex d am_M232 scr (27, [some (.ref b), some (.int x1), none, some (.int x3)], [.int t0, .int t1], H, c, n) res := by
  delta J_232_4_j27 at hr
  refine x_b 4 (S2 := (4, [some (.ref b), some (.int x1), some (.int (t1 + t0)), some (.int (x3 + 1))], [], H, c, n)) rfl ?_
  refine x_fg (Lq.s (Lq.s (Lq.s (Lq.s Lq.nil)))) ?_
  exact ka ((t1 + t0), (x3 + 1)) (Option.some.inj hr).symm
def G_232_4 (B : Md) (x1 : Int32) (s : Int32 × Int32) : Option ((Int32 × Int32) ⊕ (Int32)) := 
  match s with
  | (x2, x3) =>
    if B.piles ≤ x3 then
      some (.inr x2)
    else
      (F_230 B x3 x1).bind fun v3 =>
      if v3 = 0 then
        J_232_4_j27 B x1 x3 0 x2
      else
        J_232_4_j27 B x1 x3 1 x2
theorem g_232_4 {d : Nat} (hd : 2 ≤ d) {scr : ASc} {res : ARe} {c n : Nat} {H : AHp} {b : Nat} {B : Md} {x1 : Int32} (hR : Rg H b (Md.cells b B)) {s : Int32 × Int32} {o : (Int32 × Int32) ⊕ (Int32)} (hr : G_232_4 B x1 s = some o) (ka : ∀ s, o = .inl s → Ex d am_M232 scr (P_232_4 H b c n B x1 s) res) (kx : ∀ s, o = .inr s → Ex d am_M232 scr (PX_232_4 H b c n B x1 s) res) : Ex d am_M232 scr (P_232_4 H b c n B x1 s) res := by
  obtain ⟨x2, x3⟩ := s
  delta G_232_4 at hr
  show Ex d am_M232 scr (4, [some (.ref b), some (.int x1), some (.int x2), some (.int x3)], [], H, c, n) res
  refine x_b 1 (S2 := (5, [some (.ref b), some (.int x1), some (.int x2), some (.int x3)], [.int x3], H, c, n)) rfl ?_
  refine x_ldan rfl rfl rfl (hR.lt (i := 0) (show 0 < 17 by decide)) ?_
  refine x_getf rfl rfl (hR.lt (i := 0) (show 0 < 17 by decide)) (hR.at (i := 0) rfl) rfl ?_
  rcases ite_some hr with ⟨h1, hr⟩ | ⟨h1, hr⟩
  · refine x_ct rfl rfl (decide_eq_true h1) ?_
    refine x_fg (Lq.n (Lq.n (Lq.s (Lq.n Lq.nil)))) ?_
    exact kx x2 (Option.some.inj hr).symm
  · refine x_cf rfl rfl (decide_eq_false h1) ?_
    refine x_b 1 (S2 := (13, [some (.ref b), some (.int x1), some (.int x2), some (.int x3)], [.int x2], H, c, n)) rfl ?_
    refine x_ldan rfl rfl rfl (hR.lt (i := 0) (show 0 < 17 by decide)) ?_
    refine x_b 2 (S2 := (16, [some (.ref b), some (.int x1), some (.int x2), some (.int x3)], [.int x1, .int x3, .ref b, .int x2], H, c, n)) rfl ?_
    obtain ⟨v3, h2, hr⟩ := bd_some hr
    refine x_c0 (m_230 hR h2) rfl rfl rfl rfl (am_recv_v (hR.lt (i := 0) (show 0 < 17 by decide)) (hR.at (i := 0) rfl) rfl) (by omega) ?_
    rcases ite_some hr with ⟨h4, hr⟩ | ⟨h4, hr⟩
    · refine x_zt rfl rfl (decide_eq_true h4) ?_
      refine x_b 1 (S2 := (27, [some (.ref b), some (.int x1), some (.int x2), some (.int x3)], [.int 0, .int x2], H, c, n)) rfl ?_
      refine x_fg (Lq.s (Lq.s (Lq.n (Lq.s Lq.nil)))) ?_
      exact j_232_4_j27 hd hR hr ka kx
    · refine x_zf rfl rfl (decide_eq_false h4) ?_
      refine x_b 2 (S2 := (27, [some (.ref b), some (.int x1), some (.int x2), some (.int x3)], [.int 1, .int x2], H, c, n)) rfl ?_
      refine x_fg (Lq.s (Lq.s (Lq.n (Lq.s Lq.nil)))) ?_
      exact j_232_4_j27 hd hR hr ka kx
/-- PebbleProofsModel.shortOnes(I)I -/
def F_232 (B : Md) (x1 : Int32) : Option (Int32) :=
  (lw (G_232_4 B x1) 200000 (0, 0)).bind fun v6 =>
  some v6
theorem f_232 {d : Nat} (hd : 2 ≤ d) {scr : ASc} {res : ARe} {c n : Nat} {H : AHp} {b : Nat} {B : Md} {x1 : Int32} (hR : Rg H b (Md.cells b B)) {o : Int32} (hr : F_232 B x1 = some o) (kr : res = (.inl (some (.int o)), H, c, n)) : Ex d am_M232 scr (0, [some (.ref b), some (.int x1), none, none], [], H, c, n) res := by
  delta F_232 at hr
  refine x_b 4 (S2 := (4, [some (.ref b), some (.int x1), some (.int 0), some (.int 0)], [], H, c, n)) rfl ?_
  refine x_fg (Lq.s (Lq.s (Lq.s (Lq.s Lq.nil)))) ?_
  obtain ⟨v6, h5, hr⟩ := bd_some hr
  refine x_lw (P := P_232_4 H b c n B x1) (Q := fun x => Ex d am_M232 scr (PX_232_4 H b c n B x1 x) res) (fun s o h1 ka kx => g_232_4 hd hR h1 ka kx) _ (0, 0) _ h5 ?_
  show Ex d am_M232 scr (35, [none, none, some (.int v6), none], [], H, c, n) res
  refine x_b 1 (S2 := (36, [none, none, some (.int v6), none], [.int v6], H, c, n)) rfl ?_
  cases hr
  rw [kr]
  exact x_ret rfl rfl am_ret_i
theorem m_232 {H : AHp} {b : Nat} {B : Md} {x1 : Int32} (hR : Rg H b (Md.cells b B)) {o : Int32} (hr : F_232 B x1 = some o) : Rn 3 232 [.ref b, .int x1] H (.inl (some (.int o)), H, 0, 0) :=
  x_meth (M := am_M232) rfl (show 2 ≤ 4 by decide) (f_232 (Nat.le_refl _) hR hr rfl)
/-- PebbleProofsModel.worstPiles(I)I -/
def F_233 (B : Md) (x1 : Int32) : Option (Int32 × (Md)) :=
  (some (B.w_thrown 0)).bind fun B1 =>
  (F_172 B1 x1).bind fun v4 =>
  (F_135 B1 v4 1).bind fun (v6, B7) =>
  if v6 = 0 then
    (F_227 B7 x1).bind fun (v10, B11) =>
    (F_232 B11 (v10 - 1)).bind fun v13 =>
    some (v13, B11)
  else
    some (0, B7)
theorem f_233 {d : Nat} (hd : 6 ≤ d) {scr : ASc} {res : ARe} {c n : Nat} {h : AHp} {b : Nat} (hb : b + 17 ≤ am_SB) (hh : b + 17 ≤ h.length) {B : Md} {x1 : Int32} {o : Int32 × (Md)} (hr : F_233 B x1 = some o) (kr : res = (.inl (some (.int o.1)), hput h b (Md.cells b o.2), c, n)) : Ex d am_M233 scr (0, [some (.ref b), some (.int x1), none], [], (hput h b (Md.cells b B)), c, n) res := by
  delta F_233 at hr
  refine x_ldan rfl rfl rfl (h_lt (i := 0) hb (by decide)) ?_
  refine x_b 1 (S2 := (2, [some (.ref b), some (.int x1), none], [.int 0, .ref b], (hput h b (Md.cells b B)), c, n)) rfl ?_
  obtain ⟨B1, h2, hr⟩ := bd_some hr
  refine x_putf (H := (hput h b (Md.cells b B1))) rfl rfl (h_lt (i := 0) hb (by decide)) (hp_at (i := 0) hh rfl rfl) ⟨(show 0 < 28 by decide), rfl, rfl, nofun⟩ (hp_set (i := 0) hh rfl (by decide) (Md.s_thrown rfl h2)) ?_
  refine x_ldan rfl rfl rfl (h_lt (i := 0) hb (by decide)) ?_
  refine x_ldan rfl rfl rfl (h_lt (i := 0) hb (by decide)) ?_
  refine x_b 1 (S2 := (8, [some (.ref b), some (.int x1), none], [.int x1, .ref b, .ref b], (hput h b (Md.cells b B1)), c, n)) rfl ?_
  obtain ⟨v4, h3, hr⟩ := bd_some hr
  refine x_c0 (m_172 (hp_rg hb hh rfl) h3) rfl rfl rfl rfl (am_recv_v (h_lt (i := 0) hb (by decide)) (hp_at (i := 0) hh rfl rfl) rfl) (by omega) ?_
  refine x_b 1 (S2 := (12, [some (.ref b), some (.int x1), none], [.int 1, .int v4, .ref b], (hput h b (Md.cells b B1)), c, n)) rfl ?_
  obtain ⟨⟨v6, B7⟩, h5, hr⟩ := bd_some hr
  refine x_c0 (m_135 hb hh h5) rfl rfl rfl rfl (am_recv_v (h_lt (i := 0) hb (by decide)) (hp_at (i := 0) hh rfl rfl) rfl) (by omega) ?_
  rcases ite_some hr with ⟨h8, hr⟩ | ⟨h8, hr⟩
  · refine x_zt rfl rfl (decide_eq_true h8) ?_
    refine x_ldan rfl rfl rfl (h_lt (i := 0) hb (by decide)) ?_
    refine x_b 1 (S2 := (22, [some (.ref b), some (.int x1), none], [.int x1, .ref b], (hput h b (Md.cells b B7)), c, n)) rfl ?_
    obtain ⟨⟨v10, B11⟩, h9, hr⟩ := bd_some hr
    refine x_c0 (m_227 hb hh h9) rfl rfl rfl rfl (am_recv_v (h_lt (i := 0) hb (by decide)) (hp_at (i := 0) hh rfl rfl) rfl) (by omega) ?_
    refine x_b 3 (S2 := (28, [some (.ref b), some (.int x1), some (.int (v10 - 1))], [], (hput h b (Md.cells b B11)), c, n)) rfl ?_
    refine x_ldan rfl rfl rfl (h_lt (i := 0) hb (by decide)) ?_
    refine x_b 1 (S2 := (30, [some (.ref b), some (.int x1), some (.int (v10 - 1))], [.int (v10 - 1), .ref b], (hput h b (Md.cells b B11)), c, n)) rfl ?_
    obtain ⟨v13, h12, hr⟩ := bd_some hr
    refine x_c0 (m_232 (hp_rg hb hh rfl) h12) rfl rfl rfl rfl (am_recv_v (h_lt (i := 0) hb (by decide)) (hp_at (i := 0) hh rfl rfl) rfl) (by omega) ?_
    cases hr
    rw [kr]
    exact x_ret rfl rfl am_ret_i
  · refine x_zf rfl rfl (decide_eq_false h8) ?_
    refine x_b 1 (S2 := (19, [some (.ref b), some (.int x1), none], [.int 0], (hput h b (Md.cells b B7)), c, n)) rfl ?_
    cases hr
    rw [kr]
    exact x_ret rfl rfl am_ret_i
theorem m_233 {h : AHp} {b : Nat} (hb : b + 17 ≤ am_SB) (hh : b + 17 ≤ h.length) {B : Md} {x1 : Int32} {o : Int32 × (Md)} (hr : F_233 B x1 = some o) : Rn 7 233 [.ref b, .int x1] (hput h b (Md.cells b B)) (.inl (some (.int o.1)), hput h b (Md.cells b o.2), 0, 0) :=
  x_meth (M := am_M233) rfl (show 2 ≤ 3 by decide) (f_233 (Nat.le_refl _) hb hh hr rfl)
def J_234_0_j35 (B : Md) : Option (Int32 × (Md)) :=
  some (0, B)
theorem j_234_0_j35 {d : Nat} (hd : 5 ≤ d) {scr : ASc} {res : ARe} {c n : Nat} {h : AHp} {b : Nat} (hb : b + 17 ≤ am_SB) (hh : b + 17 ≤ h.length) {B : Md} {o : Int32 × (Md)} (hr : J_234_0_j35 B = some o) (kr : res = (.inl (some (.int o.1)), hput h b (Md.cells b o.2), c, n)) : Ex d am_M234 scr (35, [none, none, none], [], (hput h b (Md.cells b B)), c, n) res := by
  delta J_234_0_j35 at hr
  refine x_b 1 (S2 := (36, [none, none, none], [.int 0], (hput h b (Md.cells b B)), c, n)) rfl ?_
  cases hr
  rw [kr]
  exact x_ret rfl rfl am_ret_i
/-- PebbleProofsModel.failing(II)I -/
def F_234 (B : Md) (x1 : Int32) (x2 : Int32) : Option (Int32 × (Md)) :=
  (some (B.w_thrown 0)).bind fun B1 =>
  (F_172 B1 x1).bind fun v4 =>
  (F_135 B1 v4 1).bind fun (v6, B7) =>
  if ¬ v6 = 0 then
    J_234_0_j35 B7
  else
    (F_134 x2.toInt64 0 (99 : Int64)).bind fun v10 =>
    (F_135 B7 v10 2).bind fun (v12, B13) =>
    if v12 = 0 then
      (F_209 B13 x1).bind fun B16 =>
      (F_232 B16 x2).bind fun v18 =>
      some (v18, B16)
    else
      J_234_0_j35 B13
theorem f_234 {d : Nat} (hd : 5 ≤ d) {scr : ASc} {res : ARe} {c n : Nat} {h : AHp} {b : Nat} (hb : b + 17 ≤ am_SB) (hh : b + 17 ≤ h.length) {B : Md} {x1 : Int32} {x2 : Int32} {o : Int32 × (Md)} (hr : F_234 B x1 x2 = some o) (kr : res = (.inl (some (.int o.1)), hput h b (Md.cells b o.2), c, n)) : Ex d am_M234 scr (0, [some (.ref b), some (.int x1), some (.int x2)], [], (hput h b (Md.cells b B)), c, n) res := by
  delta F_234 at hr
  refine x_ldan rfl rfl rfl (h_lt (i := 0) hb (by decide)) ?_
  refine x_b 1 (S2 := (2, [some (.ref b), some (.int x1), some (.int x2)], [.int 0, .ref b], (hput h b (Md.cells b B)), c, n)) rfl ?_
  obtain ⟨B1, h2, hr⟩ := bd_some hr
  refine x_putf (H := (hput h b (Md.cells b B1))) rfl rfl (h_lt (i := 0) hb (by decide)) (hp_at (i := 0) hh rfl rfl) ⟨(show 0 < 28 by decide), rfl, rfl, nofun⟩ (hp_set (i := 0) hh rfl (by decide) (Md.s_thrown rfl h2)) ?_
  refine x_ldan rfl rfl rfl (h_lt (i := 0) hb (by decide)) ?_
  refine x_ldan rfl rfl rfl (h_lt (i := 0) hb (by decide)) ?_
  refine x_b 1 (S2 := (8, [some (.ref b), some (.int x1), some (.int x2)], [.int x1, .ref b, .ref b], (hput h b (Md.cells b B1)), c, n)) rfl ?_
  obtain ⟨v4, h3, hr⟩ := bd_some hr
  refine x_c0 (m_172 (hp_rg hb hh rfl) h3) rfl rfl rfl rfl (am_recv_v (h_lt (i := 0) hb (by decide)) (hp_at (i := 0) hh rfl rfl) rfl) (by omega) ?_
  refine x_b 1 (S2 := (12, [some (.ref b), some (.int x1), some (.int x2)], [.int 1, .int v4, .ref b], (hput h b (Md.cells b B1)), c, n)) rfl ?_
  obtain ⟨⟨v6, B7⟩, h5, hr⟩ := bd_some hr
  refine x_c0 (m_135 hb hh h5) rfl rfl rfl rfl (am_recv_v (h_lt (i := 0) hb (by decide)) (hp_at (i := 0) hh rfl rfl) rfl) (by omega) ?_
  rcases ite_some hr with ⟨h8, hr⟩ | ⟨h8, hr⟩
  · refine x_zt rfl rfl (decide_eq_true h8) ?_
    refine x_fg (Lq.n (Lq.n (Lq.n Lq.nil))) ?_
    exact j_234_0_j35 hd hb hh hr kr
  · refine x_zf rfl rfl (decide_eq_false h8) ?_
    refine x_ldan rfl rfl rfl (h_lt (i := 0) hb (by decide)) ?_
    refine x_b 4 (S2 := (25, [some (.ref b), some (.int x1), some (.int x2)], [.long (99 : Int64), .long 0, .long x2.toInt64, .ref b], (hput h b (Md.cells b B7)), c, n)) rfl ?_
    obtain ⟨v10, h9, hr⟩ := bd_some hr
    refine x_c0 (m_134 h9) rfl rfl rfl rfl rfl (by omega) ?_
    refine x_b 1 (S2 := (29, [some (.ref b), some (.int x1), some (.int x2)], [.int 2, .int v10, .ref b], (hput h b (Md.cells b B7)), c, n)) rfl ?_
    obtain ⟨⟨v12, B13⟩, h11, hr⟩ := bd_some hr
    refine x_c0 (m_135 hb hh h11) rfl rfl rfl rfl (am_recv_v (h_lt (i := 0) hb (by decide)) (hp_at (i := 0) hh rfl rfl) rfl) (by omega) ?_
    rcases ite_some hr with ⟨h14, hr⟩ | ⟨h14, hr⟩
    · refine x_zt rfl rfl (decide_eq_true h14) ?_
      refine x_ldan rfl rfl rfl (h_lt (i := 0) hb (by decide)) ?_
      refine x_b 1 (S2 := (39, [some (.ref b), some (.int x1), some (.int x2)], [.int x1, .ref b], (hput h b (Md.cells b B13)), c, n)) rfl ?_
      obtain ⟨B16, h15, hr⟩ := bd_some hr
      refine x_c0 (m_209 hb hh h15) rfl rfl rfl rfl (am_recv_v (h_lt (i := 0) hb (by decide)) (hp_at (i := 0) hh rfl rfl) rfl) (by omega) ?_
      refine x_ldan rfl rfl rfl (h_lt (i := 0) hb (by decide)) ?_
      refine x_b 1 (S2 := (44, [some (.ref b), some (.int x1), some (.int x2)], [.int x2, .ref b], (hput h b (Md.cells b B16)), c, n)) rfl ?_
      obtain ⟨v18, h17, hr⟩ := bd_some hr
      refine x_c0 (m_232 (hp_rg hb hh rfl) h17) rfl rfl rfl rfl (am_recv_v (h_lt (i := 0) hb (by decide)) (hp_at (i := 0) hh rfl rfl) rfl) (by omega) ?_
      cases hr
      rw [kr]
      exact x_ret rfl rfl am_ret_i
    · refine x_zf rfl rfl (decide_eq_false h14) ?_
      refine x_fg (Lq.n (Lq.n (Lq.n Lq.nil))) ?_
      exact j_234_0_j35 hd hb hh hr kr
theorem m_234 {h : AHp} {b : Nat} (hb : b + 17 ≤ am_SB) (hh : b + 17 ≤ h.length) {B : Md} {x1 : Int32} {x2 : Int32} {o : Int32 × (Md)} (hr : F_234 B x1 x2 = some o) : Rn 6 234 [.ref b, .int x1, .int x2] (hput h b (Md.cells b B)) (.inl (some (.int o.1)), hput h b (Md.cells b o.2), 0, 0) :=
  x_meth (M := am_M234) rfl (show 3 ≤ 3 by decide) (f_234 (Nat.le_refl _) hb hh hr rfl)
abbrev P_236_2 (H : AHp) (b : Nat) (c n : Nat) (B : Md) (x1 : Int32) (x2 : Int32) (s : Int32) : ASt := (2, [some (.ref b), some (.int x1), some (.int x2), some (.int s)], [], H, c, n)
abbrev PX_236_2 (H : AHp) (b : Nat) (c n : Nat) (B : Md) (x1 : Int32) (x2 : Int32) (s : Int32) : ASt := (32, [none, none, none, some (.int s)], [], H, c, n)
def J_236_2_j26 (B : Md) (x1 : Int32) (x2 : Int32) (x3 : Int32) : Option ((Int32) ⊕ (Int32)) :=
  some (.inl (x3 + 1))
theorem j_236_2_j26 {d : Nat} (hd : 3 ≤ d) {scr : ASc} {res : ARe} {c n : Nat} {H : AHp} {b : Nat} {B : Md} {x1 : Int32} {x2 : Int32} {x3 : Int32} (hR : Rg H b (Md.cells b B)) {o : (Int32) ⊕ (Int32)} (hr : J_236_2_j26 B x1 x2 x3 = some o) (ka : ∀ s, o = .inl s → Ex d am_M236 scr (P_236_2 H b c n B x1 x2 s) res) (kx : ∀ s, o = .inr s → Ex d am_M236 scr (PX_236_2 H b c n B x1 x2 s) res) : Ex d am_M236 scr (26, [some (.ref b), some (.int x1), some (.int x2), some (.int x3)], [], H, c, n) res := by
  delta J_236_2_j26 at hr
  refine x_b 2 (S2 := (2, [some (.ref b), some (.int x1), some (.int x2), some (.int (x3 + 1))], [], H, c, n)) rfl ?_
  refine x_fg (Lq.s (Lq.s (Lq.s (Lq.s Lq.nil)))) ?_
  exact ka (x3 + 1) (Option.some.inj hr).symm
def G_236_2 (B : Md) (x1 : Int32) (x2 : Int32) (s : Int32) : Option ((Int32) ⊕ (Int32)) := 
  match s with
  | x3 =>
    (F_175 B x1 x3).bind fun v2 =>
    if v2 = 0 then
      J_236_2_j26 B x1 x2 x3
    else
      (F_183 B x2 x3).bind fun v5 =>
      (F_183 B x2 x1).bind fun v7 =>
      if v5 < v7 then
        some (.inr x3)
      else
        J_236_2_j26 B x1 x2 x3
theorem g_236_2 {d : Nat} (hd : 3 ≤ d) {scr : ASc} {res : ARe} {c n : Nat} {H : AHp} {b : Nat} {B : Md} {x1 : Int32} {x2 : Int32} (hR : Rg H b (Md.cells b B)) {s : Int32} {o : (Int32) ⊕ (Int32)} (hr : G_236_2 B x1 x2 s = some o) (ka : ∀ s, o = .inl s → Ex d am_M236 scr (P_236_2 H b c n B x1 x2 s) res) (kx : ∀ s, o = .inr s → Ex d am_M236 scr (PX_236_2 H b c n B x1 x2 s) res) : Ex d am_M236 scr (P_236_2 H b c n B x1 x2 s) res := by
  delta G_236_2 at hr
  show Ex d am_M236 scr (2, [some (.ref b), some (.int x1), some (.int x2), some (.int s)], [], H, c, n) res
  refine x_ldan rfl rfl rfl (hR.lt (i := 0) (show 0 < 17 by decide)) ?_
  refine x_b 2 (S2 := (5, [some (.ref b), some (.int x1), some (.int x2), some (.int s)], [.int s, .int x1, .ref b], H, c, n)) rfl ?_
  obtain ⟨v2, h1, hr⟩ := bd_some hr
  refine x_c0 (m_175 hR h1) rfl rfl rfl rfl (am_recv_v (hR.lt (i := 0) (show 0 < 17 by decide)) (hR.at (i := 0) rfl) rfl) (by omega) ?_
  rcases ite_some hr with ⟨h3, hr⟩ | ⟨h3, hr⟩
  · refine x_zt rfl rfl (decide_eq_true h3) ?_
    refine x_fg (Lq.s (Lq.s (Lq.s (Lq.s Lq.nil)))) ?_
    exact j_236_2_j26 hd hR hr ka kx
  · refine x_zf rfl rfl (decide_eq_false h3) ?_
    refine x_ldan rfl rfl rfl (hR.lt (i := 0) (show 0 < 17 by decide)) ?_
    refine x_b 2 (S2 := (14, [some (.ref b), some (.int x1), some (.int x2), some (.int s)], [.int s, .int x2, .ref b], H, c, n)) rfl ?_
    obtain ⟨v5, h4, hr⟩ := bd_some hr
    refine x_c0 (m_183 hR h4) rfl rfl rfl rfl (am_recv_v (hR.lt (i := 0) (show 0 < 17 by decide)) (hR.at (i := 0) rfl) rfl) (by omega) ?_
    refine x_ldan rfl rfl rfl (hR.lt (i := 0) (show 0 < 17 by decide)) ?_
    refine x_b 2 (S2 := (20, [some (.ref b), some (.int x1), some (.int x2), some (.int s)], [.int x1, .int x2, .ref b, .int v5], H, c, n)) rfl ?_
    obtain ⟨v7, h6, hr⟩ := bd_some hr
    refine x_c0 (m_183 hR h6) rfl rfl rfl rfl (am_recv_v (hR.lt (i := 0) (show 0 < 17 by decide)) (hR.at (i := 0) rfl) rfl) (by omega) ?_
    rcases ite_some hr with ⟨h8, hr⟩ | ⟨h8, hr⟩
    · refine x_ct rfl rfl (decide_eq_true h8) ?_
      refine x_fg (Lq.n (Lq.n (Lq.n (Lq.s Lq.nil)))) ?_
      exact kx s (Option.some.inj hr).symm
    · refine x_cf rfl rfl (decide_eq_false h8) ?_
      refine x_fg (Lq.s (Lq.s (Lq.s (Lq.s Lq.nil)))) ?_
      exact j_236_2_j26 hd hR hr ka kx
/-- PebbleProofsModel.parentOf(II)I -/
def F_236 (B : Md) (x1 : Int32) (x2 : Int32) : Option (Int32) :=
  (lw (G_236_2 B x1 x2) 200000 0).bind fun v10 =>
  some v10
theorem f_236 {d : Nat} (hd : 3 ≤ d) {scr : ASc} {res : ARe} {c n : Nat} {H : AHp} {b : Nat} {B : Md} {x1 : Int32} {x2 : Int32} (hR : Rg H b (Md.cells b B)) {o : Int32} (hr : F_236 B x1 x2 = some o) (kr : res = (.inl (some (.int o)), H, c, n)) : Ex d am_M236 scr (0, [some (.ref b), some (.int x1), some (.int x2), none], [], H, c, n) res := by
  delta F_236 at hr
  refine x_b 2 (S2 := (2, [some (.ref b), some (.int x1), some (.int x2), some (.int 0)], [], H, c, n)) rfl ?_
  refine x_fg (Lq.s (Lq.s (Lq.s (Lq.s Lq.nil)))) ?_
  obtain ⟨v10, h9, hr⟩ := bd_some hr
  refine x_lw (P := P_236_2 H b c n B x1 x2) (Q := fun x => Ex d am_M236 scr (PX_236_2 H b c n B x1 x2 x) res) (fun s o h1 ka kx => g_236_2 hd hR h1 ka kx) _ 0 _ h9 ?_
  show Ex d am_M236 scr (32, [none, none, none, some (.int v10)], [], H, c, n) res
  refine x_b 1 (S2 := (33, [none, none, none, some (.int v10)], [.int v10], H, c, n)) rfl ?_
  cases hr
  rw [kr]
  exact x_ret rfl rfl am_ret_i
theorem m_236 {H : AHp} {b : Nat} {B : Md} {x1 : Int32} {x2 : Int32} (hR : Rg H b (Md.cells b B)) {o : Int32} (hr : F_236 B x1 x2 = some o) : Rn 4 236 [.ref b, .int x1, .int x2] H (.inl (some (.int o)), H, 0, 0) :=
  x_meth (M := am_M236) rfl (show 3 ≤ 4 by decide) (f_236 (Nat.le_refl _) hR hr rfl)
abbrev P_235_7 (h : AHp) (b : Nat) (c n : Nat) (x1 : Int32) (s : Int32 × (Md)) : ASt := (7, [some (.ref b), some (.int x1), some (.int s.1), none, none], [], (hput h b (Md.cells b s.2)), c, n)
abbrev PX_235_7 (h : AHp) (b : Nat) (c n : Nat) (x1 : Int32) (s : (Md)) : ASt := (30, [some (.ref b), some (.int x1), none, none, none], [], (hput h b (Md.cells b s)), c, n)
def G_235_7 (x1 : Int32) (s : Int32 × (Md)) : Option ((Int32 × (Md)) ⊕ ((Md))) := 
  match s with
  | (x2, B) =>
    (ix 0 93).bind fun i3 =>
    if (B.now i3) ≤ x2 then
      some (.inr B)
    else
      (ix x2 6).bind fun i6 =>
      (some (B.w_heights (upd B.heights i6 0))).bind fun B8 =>
      some (.inl ((x2 + 1), B8))
theorem g_235_7 {d : Nat} (hd : 4 ≤ d) {scr : ASc} {res : ARe} {c n : Nat} {h : AHp} {b : Nat} (hb : b + 17 ≤ am_SB) (hh : b + 17 ≤ h.length) {x1 : Int32} {s : Int32 × (Md)} {o : (Int32 × (Md)) ⊕ ((Md))} (hr : G_235_7 x1 s = some o) (ka : ∀ s, o = .inl s → Ex d am_M235 scr (P_235_7 h b c n x1 s) res) (kx : ∀ s, o = .inr s → Ex d am_M235 scr (PX_235_7 h b c n x1 s) res) : Ex d am_M235 scr (P_235_7 h b c n x1 s) res := by
  obtain ⟨x2, B⟩ := s
  delta G_235_7 at hr
  show Ex d am_M235 scr (7, [some (.ref b), some (.int x1), some (.int x2), none, none], [], (hput h b (Md.cells b B)), c, n) res
  refine x_b 1 (S2 := (8, [some (.ref b), some (.int x1), some (.int x2), none, none], [.int x2], (hput h b (Md.cells b B)), c, n)) rfl ?_
  refine x_ldan rfl rfl rfl (h_lt (i := 0) hb (by decide)) ?_
  refine x_getf rfl rfl (h_lt (i := 0) hb (by decide)) (hp_at (i := 0) hh rfl rfl) rfl ?_
  refine x_b 1 (S2 := (13, [some (.ref b), some (.int x1), some (.int x2), none, none], [.int 0, .ref (b + 3), .int x2], (hput h b (Md.cells b B)), c, n)) rfl ?_
  obtain ⟨i3, h4, hr⟩ := bd_some hr
  refine x_iald rfl rfl (h_lt (i := 3) hb (by decide)) (hp_at (i := 3) hh rfl rfl) h4 ?_
  rcases ite_some hr with ⟨h5, hr⟩ | ⟨h5, hr⟩
  · refine x_ct rfl rfl (decide_eq_true h5) ?_
    refine x_fg (Lq.s (Lq.s (Lq.n (Lq.s (Lq.s Lq.nil))))) ?_
    exact kx B (Option.some.inj hr).symm
  · refine x_cf rfl rfl (decide_eq_false h5) ?_
    refine x_ldan rfl rfl rfl (h_lt (i := 0) hb (by decide)) ?_
    refine x_getf rfl rfl (h_lt (i := 0) hb (by decide)) (hp_at (i := 0) hh rfl rfl) rfl ?_
    refine x_b 2 (S2 := (23, [some (.ref b), some (.int x1), some (.int x2), none, none], [.int 0, .int x2, .ref (b + 16)], (hput h b (Md.cells b B)), c, n)) rfl ?_
    obtain ⟨i6, h7, hr⟩ := bd_some hr
    obtain ⟨B8, h9, hr⟩ := bd_some hr
    refine x_iast (H := (hput h b (Md.cells b B8))) rfl rfl (h_lt (i := 16) hb (by decide)) (hp_at (i := 16) hh rfl rfl) h7 (hp_set (i := 16) hh rfl (by decide) (Md.s_heights h9)) ?_
    refine x_b 2 (S2 := (7, [some (.ref b), some (.int x1), some (.int (x2 + 1)), none, none], [], (hput h b (Md.cells b B8)), c, n)) rfl ?_
    refine x_fg (Lq.s (Lq.s (Lq.s (Lq.s (Lq.s Lq.nil))))) ?_
    exact ka ((x2 + 1), B8) (Option.some.inj hr).symm
abbrev P_235_33 (h : AHp) (b : Nat) (c n : Nat) (x1 : Int32) (s : Int32 × (Md)) : ASt := (33, [some (.ref b), some (.int x1), some (.int s.1), none, none], [], (hput h b (Md.cells b s.2)), c, n)
abbrev PX_235_33 (h : AHp) (b : Nat) (c n : Nat) (x1 : Int32) (s : (Md)) : ASt := (104, [none, none, none, none, none], [], (hput h b (Md.cells b s)), c, n)
abbrev P_235_39 (h : AHp) (b : Nat) (c n : Nat) (x1 : Int32) (x2 : Int32) (s : Int32 × (Md)) : ASt := (39, [some (.ref b), some (.int x1), some (.int x2), some (.int s.1), none], [], (hput h b (Md.cells b s.2)), c, n)
abbrev PX_235_39 (h : AHp) (b : Nat) (c n : Nat) (x1 : Int32) (x2 : Int32) (s : (Md)) : ASt := (98, [some (.ref b), some (.int x1), some (.int x2), none, none], [], (hput h b (Md.cells b s)), c, n)
def J_235_39_j92 (B : Md) (x1 : Int32) (x2 : Int32) (x3 : Int32) : Option ((Int32 × (Md)) ⊕ ((Md))) :=
  some (.inl ((x3 + 1), B))
theorem j_235_39_j92 {d : Nat} (hd : 4 ≤ d) {scr : ASc} {res : ARe} {c n : Nat} {h : AHp} {b : Nat} (hb : b + 17 ≤ am_SB) (hh : b + 17 ≤ h.length) {B : Md} {x1 : Int32} {x2 : Int32} {x3 : Int32} {o : (Int32 × (Md)) ⊕ ((Md))} (hr : J_235_39_j92 B x1 x2 x3 = some o) (ka : ∀ s, o = .inl s → Ex d am_M235 scr (P_235_39 h b c n x1 x2 s) res) (kx : ∀ s, o = .inr s → Ex d am_M235 scr (PX_235_39 h b c n x1 x2 s) res) : Ex d am_M235 scr (92, [some (.ref b), some (.int x1), some (.int x2), some (.int x3), none], [], (hput h b (Md.cells b B)), c, n) res := by
  delta J_235_39_j92 at hr
  refine x_b 2 (S2 := (39, [some (.ref b), some (.int x1), some (.int x2), some (.int (x3 + 1)), none], [], (hput h b (Md.cells b B)), c, n)) rfl ?_
  refine x_fg (Lq.s (Lq.s (Lq.s (Lq.s (Lq.s Lq.nil))))) ?_
  exact ka ((x3 + 1), B) (Option.some.inj hr).symm
def G_235_39 (x1 : Int32) (x2 : Int32) (s : Int32 × (Md)) : Option ((Int32 × (Md)) ⊕ ((Md))) := 
  match s with
  | (x3, B) =>
    (ix 0 93).bind fun i14 =>
    if (B.now i14) ≤ x3 then
      some (.inr B)
    else
      (F_183 B x1 x3).bind fun v18 =>
      if ¬ v18 = x2 then
        J_235_39_j92 B x1 x2 x3
      else
        (F_236 B x3 x1).bind fun v21 =>
        (ix v21 6).bind fun i22 =>
        (ix x3 6).bind fun i24 =>
        (some (B.w_heights (upd B.heights i22 (imx (B.heights i22) ((B.heights i24) + 1))))).bind fun B26 =>
        J_235_39_j92 B26 x1 x2 x3
theorem g_235_39 {d : Nat} (hd : 4 ≤ d) {scr : ASc} {res : ARe} {c n : Nat} {h : AHp} {b : Nat} (hb : b + 17 ≤ am_SB) (hh : b + 17 ≤ h.length) {x1 : Int32} {x2 : Int32} {s : Int32 × (Md)} {o : (Int32 × (Md)) ⊕ ((Md))} (hr : G_235_39 x1 x2 s = some o) (ka : ∀ s, o = .inl s → Ex d am_M235 scr (P_235_39 h b c n x1 x2 s) res) (kx : ∀ s, o = .inr s → Ex d am_M235 scr (PX_235_39 h b c n x1 x2 s) res) : Ex d am_M235 scr (P_235_39 h b c n x1 x2 s) res := by
  obtain ⟨x3, B⟩ := s
  delta G_235_39 at hr
  show Ex d am_M235 scr (39, [some (.ref b), some (.int x1), some (.int x2), some (.int x3), none], [], (hput h b (Md.cells b B)), c, n) res
  refine x_b 1 (S2 := (40, [some (.ref b), some (.int x1), some (.int x2), some (.int x3), none], [.int x3], (hput h b (Md.cells b B)), c, n)) rfl ?_
  refine x_ldan rfl rfl rfl (h_lt (i := 0) hb (by decide)) ?_
  refine x_getf rfl rfl (h_lt (i := 0) hb (by decide)) (hp_at (i := 0) hh rfl rfl) rfl ?_
  refine x_b 1 (S2 := (45, [some (.ref b), some (.int x1), some (.int x2), some (.int x3), none], [.int 0, .ref (b + 3), .int x3], (hput h b (Md.cells b B)), c, n)) rfl ?_
  obtain ⟨i14, h15, hr⟩ := bd_some hr
  refine x_iald rfl rfl (h_lt (i := 3) hb (by decide)) (hp_at (i := 3) hh rfl rfl) h15 ?_
  rcases ite_some hr with ⟨h16, hr⟩ | ⟨h16, hr⟩
  · refine x_ct rfl rfl (decide_eq_true h16) ?_
    refine x_fg (Lq.s (Lq.s (Lq.s (Lq.n (Lq.s Lq.nil))))) ?_
    exact kx B (Option.some.inj hr).symm
  · refine x_cf rfl rfl (decide_eq_false h16) ?_
    refine x_ldan rfl rfl rfl (h_lt (i := 0) hb (by decide)) ?_
    refine x_b 2 (S2 := (52, [some (.ref b), some (.int x1), some (.int x2), some (.int x3), none], [.int x3, .int x1, .ref b], (hput h b (Md.cells b B)), c, n)) rfl ?_
    obtain ⟨v18, h17, hr⟩ := bd_some hr
    refine x_c0 (m_183 (hp_rg hb hh rfl) h17) rfl rfl rfl rfl (am_recv_v (h_lt (i := 0) hb (by decide)) (hp_at (i := 0) hh rfl rfl) rfl) (by omega) ?_
    refine x_b 1 (S2 := (56, [some (.ref b), some (.int x1), some (.int x2), some (.int x3), none], [.int x2, .int v18], (hput h b (Md.cells b B)), c, n)) rfl ?_
    rcases ite_some hr with ⟨h19, hr⟩ | ⟨h19, hr⟩
    · refine x_ct rfl rfl (decide_eq_true h19) ?_
      refine x_fg (Lq.s (Lq.s (Lq.s (Lq.s (Lq.s Lq.nil))))) ?_
      exact j_235_39_j92 hd hb hh hr ka kx
    · refine x_cf rfl rfl (decide_eq_false h19) ?_
      refine x_ldan rfl rfl rfl (h_lt (i := 0) hb (by decide)) ?_
      refine x_b 2 (S2 := (62, [some (.ref b), some (.int x1), some (.int x2), some (.int x3), none], [.int x1, .int x3, .ref b], (hput h b (Md.cells b B)), c, n)) rfl ?_
      obtain ⟨v21, h20, hr⟩ := bd_some hr
      refine x_c0 (m_236 (hp_rg hb hh rfl) h20) rfl rfl rfl rfl (am_recv_v (h_lt (i := 0) hb (by decide)) (hp_at (i := 0) hh rfl rfl) rfl) (by omega) ?_
      refine x_b 1 (S2 := (67, [some (.ref b), some (.int x1), some (.int x2), some (.int x3), some (.int v21)], [], (hput h b (Md.cells b B)), c, n)) rfl ?_
      refine x_ldan rfl rfl rfl (h_lt (i := 0) hb (by decide)) ?_
      refine x_getf rfl rfl (h_lt (i := 0) hb (by decide)) (hp_at (i := 0) hh rfl rfl) rfl ?_
      refine x_b 1 (S2 := (73, [some (.ref b), some (.int x1), some (.int x2), some (.int x3), some (.int v21)], [.int v21, .ref (b + 16)], (hput h b (Md.cells b B)), c, n)) rfl ?_
      refine x_ldan rfl rfl rfl (h_lt (i := 0) hb (by decide)) ?_
      refine x_getf rfl rfl (h_lt (i := 0) hb (by decide)) (hp_at (i := 0) hh rfl rfl) rfl ?_
      refine x_b 1 (S2 := (79, [some (.ref b), some (.int x1), some (.int x2), some (.int x3), some (.int v21)], [.int v21, .ref (b + 16), .int v21, .ref (b + 16)], (hput h b (Md.cells b B)), c, n)) rfl ?_
      obtain ⟨i22, h23, hr⟩ := bd_some hr
      refine x_iald rfl rfl (h_lt (i := 16) hb (by decide)) (hp_at (i := 16) hh rfl rfl) h23 ?_
      refine x_ldan rfl rfl rfl (h_lt (i := 0) hb (by decide)) ?_
      refine x_getf rfl rfl (h_lt (i := 0) hb (by decide)) (hp_at (i := 0) hh rfl rfl) rfl ?_
      refine x_b 1 (S2 := (85, [some (.ref b), some (.int x1), some (.int x2), some (.int x3), some (.int v21)], [.int x3, .ref (b + 16), .int (B.heights i22), .int v21, .ref (b + 16)], (hput h b (Md.cells b B)), c, n)) rfl ?_
      obtain ⟨i24, h25, hr⟩ := bd_some hr
      refine x_iald rfl rfl (h_lt (i := 16) hb (by decide)) (hp_at (i := 16) hh rfl rfl) h25 ?_
      refine x_b 3 (S2 := (91, [some (.ref b), some (.int x1), some (.int x2), some (.int x3), some (.int v21)], [.int (imx (B.heights i22) ((B.heights i24) + 1)), .int v21, .ref (b + 16)], (hput h b (Md.cells b B)), c, n)) rfl ?_
      obtain ⟨B26, h27, hr⟩ := bd_some hr
      refine x_iast (H := (hput h b (Md.cells b B26))) rfl rfl (h_lt (i := 16) hb (by decide)) (hp_at (i := 16) hh rfl rfl) h23 (hp_set (i := 16) hh rfl (by decide) (Md.s_heights h27)) ?_
      refine x_fg (Lq.s (Lq.s (Lq.s (Lq.s (Lq.n Lq.nil))))) ?_
      exact j_235_39_j92 hd hb hh hr ka kx
def G_235_33 (x1 : Int32) (s : Int32 × (Md)) : Option ((Int32 × (Md)) ⊕ ((Md))) := 
  match s with
  | (x2, B) =>
    if x2 ≤ 0 then
      some (.inr B)
    else
      (lw (G_235_39 x1 x2) 200000 (0, B)).bind fun B29 =>
      some (.inl ((x2 + (-1)), B29))
theorem g_235_33 {d : Nat} (hd : 4 ≤ d) {scr : ASc} {res : ARe} {c n : Nat} {h : AHp} {b : Nat} (hb : b + 17 ≤ am_SB) (hh : b + 17 ≤ h.length) {x1 : Int32} {s : Int32 × (Md)} {o : (Int32 × (Md)) ⊕ ((Md))} (hr : G_235_33 x1 s = some o) (ka : ∀ s, o = .inl s → Ex d am_M235 scr (P_235_33 h b c n x1 s) res) (kx : ∀ s, o = .inr s → Ex d am_M235 scr (PX_235_33 h b c n x1 s) res) : Ex d am_M235 scr (P_235_33 h b c n x1 s) res := by
  obtain ⟨x2, B⟩ := s
  delta G_235_33 at hr
  show Ex d am_M235 scr (33, [some (.ref b), some (.int x1), some (.int x2), none, none], [], (hput h b (Md.cells b B)), c, n) res
  refine x_b 1 (S2 := (34, [some (.ref b), some (.int x1), some (.int x2), none, none], [.int x2], (hput h b (Md.cells b B)), c, n)) rfl ?_
  rcases ite_some hr with ⟨h13, hr⟩ | ⟨h13, hr⟩
  · refine x_zt rfl rfl (decide_eq_true h13) ?_
    refine x_fg (Lq.n (Lq.n (Lq.n (Lq.s (Lq.s Lq.nil))))) ?_
    exact kx B (Option.some.inj hr).symm
  · refine x_zf rfl rfl (decide_eq_false h13) ?_
    refine x_b 2 (S2 := (39, [some (.ref b), some (.int x1), some (.int x2), some (.int 0), none], [], (hput h b (Md.cells b B)), c, n)) rfl ?_
    refine x_fg (Lq.s (Lq.s (Lq.s (Lq.s (Lq.s Lq.nil))))) ?_
    obtain ⟨B29, h28, hr⟩ := bd_some hr
    refine x_lw (P := P_235_39 h b c n x1 x2) (Q := fun x => Ex d am_M235 scr (PX_235_39 h b c n x1 x2 x) res) (fun s o h1 ka kx => g_235_39 hd hb hh h1 ka kx) _ (0, B) _ h28 ?_
    show Ex d am_M235 scr (98, [some (.ref b), some (.int x1), some (.int x2), none, none], [], (hput h b (Md.cells b B29)), c, n) res
    refine x_b 2 (S2 := (33, [some (.ref b), some (.int x1), some (.int (x2 + (-1))), none, none], [], (hput h b (Md.cells b B29)), c, n)) rfl ?_
    refine x_fg (Lq.s (Lq.s (Lq.s (Lq.s (Lq.s Lq.nil))))) ?_
    exact ka ((x2 + (-1)), B29) (Option.some.inj hr).symm
/-- PebbleProofsModel.layHeights(I)V -/
def F_235 (B : Md) (x1 : Int32) : Option (Md) :=
  (F_181 B x1).bind fun B2 =>
  (lw (G_235_7 x1) 200000 (0, B2)).bind fun B11 =>
  (lw (G_235_33 x1) 200000 (6, B11)).bind fun B32 =>
  some B32
theorem f_235 {d : Nat} (hd : 4 ≤ d) {scr : ASc} {res : ARe} {c n : Nat} {h : AHp} {b : Nat} (hb : b + 17 ≤ am_SB) (hh : b + 17 ≤ h.length) {B : Md} {x1 : Int32} {o : Md} (hr : F_235 B x1 = some o) (kr : res = (.inl (none), hput h b (Md.cells b o), c, n)) : Ex d am_M235 scr (0, [some (.ref b), some (.int x1), none, none, none], [], (hput h b (Md.cells b B)), c, n) res := by
  delta F_235 at hr
  refine x_ldan rfl rfl rfl (h_lt (i := 0) hb (by decide)) ?_
  refine x_b 1 (S2 := (2, [some (.ref b), some (.int x1), none, none, none], [.int x1, .ref b], (hput h b (Md.cells b B)), c, n)) rfl ?_
  obtain ⟨B2, h1, hr⟩ := bd_some hr
  refine x_c0 (m_181 hb hh h1) rfl rfl rfl rfl (am_recv_v (h_lt (i := 0) hb (by decide)) (hp_at (i := 0) hh rfl rfl) rfl) (by omega) ?_
  refine x_b 2 (S2 := (7, [some (.ref b), some (.int x1), some (.int 0), none, none], [], (hput h b (Md.cells b B2)), c, n)) rfl ?_
  refine x_fg (Lq.s (Lq.s (Lq.s (Lq.s (Lq.s Lq.nil))))) ?_
  obtain ⟨B11, h10, hr⟩ := bd_some hr
  refine x_lw (P := P_235_7 h b c n x1) (Q := fun x => Ex d am_M235 scr (PX_235_7 h b c n x1 x) res) (fun s o h1 ka kx => g_235_7 hd hb hh h1 ka kx) _ (0, B2) _ h10 ?_
  show Ex d am_M235 scr (30, [some (.ref b), some (.int x1), none, none, none], [], (hput h b (Md.cells b B11)), c, n) res
  refine x_b 2 (S2 := (33, [some (.ref b), some (.int x1), some (.int 6), none, none], [], (hput h b (Md.cells b B11)), c, n)) rfl ?_
  refine x_fg (Lq.s (Lq.s (Lq.s (Lq.s (Lq.s Lq.nil))))) ?_
  obtain ⟨B32, h31, hr⟩ := bd_some hr
  refine x_lw (P := P_235_33 h b c n x1) (Q := fun x => Ex d am_M235 scr (PX_235_33 h b c n x1 x) res) (fun s o h1 ka kx => g_235_33 hd hb hh h1 ka kx) _ (6, B11) _ h31 ?_
  show Ex d am_M235 scr (104, [none, none, none, none, none], [], (hput h b (Md.cells b B32)), c, n) res
  cases hr
  rw [kr]
  exact x_ret rfl rfl rfl
theorem m_235 {h : AHp} {b : Nat} (hb : b + 17 ≤ am_SB) (hh : b + 17 ≤ h.length) {B : Md} {x1 : Int32} {o : Md} (hr : F_235 B x1 = some o) : Rn 5 235 [.ref b, .int x1] (hput h b (Md.cells b B)) (.inl (none), hput h b (Md.cells b o), 0, 0) :=
  x_meth (M := am_M235) rfl (show 2 ≤ 5 by decide) (f_235 (Nat.le_refl _) hb hh hr rfl)
abbrev P_237_10 (H : AHp) (b : Nat) (c n : Nat) (B : Md) (x1 : Int32) (x2 : Int32) (x3 : Int32) (s : Int32) : ASt := (10, [some (.ref b), some (.int x1), some (.int x2), some (.int x3), some (.int s), none], [], H, c, n)
abbrev PX_237_10 (H : AHp) (b : Nat) (c n : Nat) (B : Md) (x1 : Int32) (x2 : Int32) (x3 : Int32) (s : Unit) : ASt := (105, [none, none, none, none, none, none], [], H, c, n)
def J_237_10_j99 (B : Md) (x1 : Int32) (x2 : Int32) (x3 : Int32) (x4 : Int32) : Option ((Int32) ⊕ (Unit) ⊕ (Int32)) :=
  some (.inl (x4 + 1))
theorem j_237_10_j99 {d : Nat} (hd : 4 ≤ d) {scr : ASc} {res : ARe} {c n : Nat} {H : AHp} {b : Nat} {B : Md} {x1 : Int32} {x2 : Int32} {x3 : Int32} {x4 : Int32} (hR : Rg H b (Md.cells b B)) {o : (Int32) ⊕ (Unit) ⊕ (Int32)} (hr : J_237_10_j99 B x1 x2 x3 x4 = some o) (ka : ∀ s, o = .inl s → Ex d am_M237 scr (P_237_10 H b c n B x1 x2 x3 s) res) (kx : ∀ s, o = .inr (.inl s) → Ex d am_M237 scr (PX_237_10 H b c n B x1 x2 x3 s) res) (kr : ∀ r, o = .inr (.inr r) → res = (.inl (some (.int r)), H, c, n)) : Ex d am_M237 scr (99, [some (.ref b), some (.int x1), some (.int x2), some (.int x3), some (.int x4), none], [], H, c, n) res := by
  delta J_237_10_j99 at hr
  refine x_b 2 (S2 := (10, [some (.ref b), some (.int x1), some (.int x2), some (.int x3), some (.int (x4 + 1)), none], [], H, c, n)) rfl ?_
  refine x_fg (Lq.s (Lq.s (Lq.s (Lq.s (Lq.s (Lq.s Lq.nil)))))) ?_
  exact ka (x4 + 1) (Option.some.inj hr).symm
def J_237_10_j97 (B : Md) (x1 : Int32) (x2 : Int32) (x3 : Int32) : Option ((Int32) ⊕ (Unit) ⊕ (Int32)) :=
  some (.inr (.inr 0))
theorem j_237_10_j97 {d : Nat} (hd : 4 ≤ d) {scr : ASc} {res : ARe} {c n : Nat} {H : AHp} {b : Nat} {B : Md} {x1 : Int32} {x2 : Int32} {x3 : Int32} (hR : Rg H b (Md.cells b B)) {o : (Int32) ⊕ (Unit) ⊕ (Int32)} (hr : J_237_10_j97 B x1 x2 x3 = some o) (ka : ∀ s, o = .inl s → Ex d am_M237 scr (P_237_10 H b c n B x1 x2 x3 s) res) (kx : ∀ s, o = .inr (.inl s) → Ex d am_M237 scr (PX_237_10 H b c n B x1 x2 x3 s) res) (kr : ∀ r, o = .inr (.inr r) → res = (.inl (some (.int r)), H, c, n)) : Ex d am_M237 scr (97, [none, none, none, none, none, none], [], H, c, n) res := by
  delta J_237_10_j97 at hr
  refine x_b 1 (S2 := (98, [none, none, none, none, none, none], [.int 0], H, c, n)) rfl ?_
  rw [kr _ (Option.some.inj hr).symm]
  exact x_ret rfl rfl (am_ret_z (by decide))
def J_237_10_j52 (B : Md) (x1 : Int32) (x2 : Int32) (x3 : Int32) (x4 : Int32) (t0 : Int32) : Option ((Int32) ⊕ (Unit) ⊕ (Int32)) :=
  if t0 = 0 then
    J_237_10_j99 B x1 x2 x3 x4
  else
    (ix x4 6).bind fun i10 =>
    (ix x1 6).bind fun i12 =>
    if (B.heights i12) < (B.heights i10) then
      J_237_10_j97 B x1 x2 x3
    else
      if ¬ (B.heights i10) = (B.heights i12) then
        J_237_10_j99 B x1 x2 x3 x4
      else
        if x1 ≤ x4 then
          J_237_10_j99 B x1 x2 x3 x4
        else
          J_237_10_j97 B x1 x2 x3
theorem j_237_10_j52 {d : Nat} (hd : 4 ≤ d) {scr : ASc} {res : ARe} {c n : Nat} {H : AHp} {b : Nat} {B : Md} {x1 : Int32} {x2 : Int32} {x3 : Int32} {x4 : Int32} {t0 : Int32} (hR : Rg H b (Md.cells b B)) {o : (Int32) ⊕ (Unit) ⊕ (Int32)} (hr : J_237_10_j52 B x1 x2 x3 x4 t0 = some o) (ka : ∀ s, o = .inl s → Ex d am_M237 scr (P_237_10 H b c n B x1 x2 x3 s) res) (kx : ∀ s, o = .inr (.inl s) → Ex d am_M237 scr (PX_237_10 H b c n B x1 x2 x3 s) res) (kr : ∀ r, o = .inr (.inr r) → res = (.inl (some (.int r)), H, c, n)) : Ex d am_M237 scr (52, [some (.ref b), some (.int x1), some (.int x2), some (.int x3), some (.int x4), none], [.int t0], H, c, n) res := by
  delta J_237_10_j52 at hr
  refine x_b 2 (S2 := (56, [some (.ref b), some (.int x1), some (.int x2), some (.int x3), some (.int x4), some (.int t0)], [.int t0], H, c, n)) rfl ?_
  rcases ite_some hr with ⟨h9, hr⟩ | ⟨h9, hr⟩
  · refine x_zt rfl rfl (decide_eq_true h9) ?_
    refine x_fg (Lq.s (Lq.s (Lq.s (Lq.s (Lq.s (Lq.n Lq.nil)))))) ?_
    exact j_237_10_j99 hd hR hr ka kx kr
  · refine x_zf rfl rfl (decide_eq_false h9) ?_
    refine x_ldan rfl rfl rfl (hR.lt (i := 0) (show 0 < 17 by decide)) ?_
    refine x_getf rfl rfl (hR.lt (i := 0) (show 0 < 17 by decide)) (hR.at (i := 0) rfl) rfl ?_
    refine x_b 1 (S2 := (65, [some (.ref b), some (.int x1), some (.int x2), some (.int x3), some (.int x4), some (.int t0)], [.int x4, .ref (b + 16)], H, c, n)) rfl ?_
    obtain ⟨i10, h11, hr⟩ := bd_some hr
    refine x_iald rfl rfl (hR.lt (i := 16) (show 16 < 17 by decide)) (hR.at (i := 16) rfl) h11 ?_
    refine x_ldan rfl rfl rfl (hR.lt (i := 0) (show 0 < 17 by decide)) ?_
    refine x_getf rfl rfl (hR.lt (i := 0) (show 0 < 17 by decide)) (hR.at (i := 0) rfl) rfl ?_
    refine x_b 1 (S2 := (71, [some (.ref b), some (.int x1), some (.int x2), some (.int x3), some (.int x4), some (.int t0)], [.int x1, .ref (b + 16), .int (B.heights i10)], H, c, n)) rfl ?_
    obtain ⟨i12, h13, hr⟩ := bd_some hr
    refine x_iald rfl rfl (hR.lt (i := 16) (show 16 < 17 by decide)) (hR.at (i := 16) rfl) h13 ?_
    rcases ite_some hr with ⟨h14, hr⟩ | ⟨h14, hr⟩
    · refine x_ct rfl rfl (decide_eq_true h14) ?_
      refine x_fg (Lq.n (Lq.n (Lq.n (Lq.n (Lq.n (Lq.n Lq.nil)))))) ?_
      exact j_237_10_j97 hd hR hr ka kx kr
    · refine x_cf rfl rfl (decide_eq_false h14) ?_
      refine x_ldan rfl rfl rfl (hR.lt (i := 0) (show 0 < 17 by decide)) ?_
      refine x_getf rfl rfl (hR.lt (i := 0) (show 0 < 17 by decide)) (hR.at (i := 0) rfl) rfl ?_
      refine x_b 1 (S2 := (81, [some (.ref b), some (.int x1), some (.int x2), some (.int x3), some (.int x4), some (.int t0)], [.int x4, .ref (b + 16)], H, c, n)) rfl ?_
      refine x_iald rfl rfl (hR.lt (i := 16) (show 16 < 17 by decide)) (hR.at (i := 16) rfl) h11 ?_
      refine x_ldan rfl rfl rfl (hR.lt (i := 0) (show 0 < 17 by decide)) ?_
      refine x_getf rfl rfl (hR.lt (i := 0) (show 0 < 17 by decide)) (hR.at (i := 0) rfl) rfl ?_
      refine x_b 1 (S2 := (87, [some (.ref b), some (.int x1), some (.int x2), some (.int x3), some (.int x4), some (.int t0)], [.int x1, .ref (b + 16), .int (B.heights i10)], H, c, n)) rfl ?_
      refine x_iald rfl rfl (hR.lt (i := 16) (show 16 < 17 by decide)) (hR.at (i := 16) rfl) h13 ?_
      rcases ite_some hr with ⟨h16, hr⟩ | ⟨h16, hr⟩
      · refine x_ct rfl rfl (decide_eq_true h16) ?_
        refine x_fg (Lq.s (Lq.s (Lq.s (Lq.s (Lq.s (Lq.n Lq.nil)))))) ?_
        exact j_237_10_j99 hd hR hr ka kx kr
      · refine x_cf rfl rfl (decide_eq_false h16) ?_
        refine x_b 2 (S2 := (94, [some (.ref b), some (.int x1), some (.int x2), some (.int x3), some (.int x4), some (.int t0)], [.int x1, .int x4], H, c, n)) rfl ?_
        rcases ite_some hr with ⟨h17, hr⟩ | ⟨h17, hr⟩
        · refine x_ct rfl rfl (decide_eq_true h17) ?_
          refine x_fg (Lq.s (Lq.s (Lq.s (Lq.s (Lq.s (Lq.n Lq.nil)))))) ?_
          exact j_237_10_j99 hd hR hr ka kx kr
        · refine x_cf rfl rfl (decide_eq_false h17) ?_
          refine x_fg (Lq.n (Lq.n (Lq.n (Lq.n (Lq.n (Lq.n Lq.nil)))))) ?_
          exact j_237_10_j97 hd hR hr ka kx kr
def J_237_10_j51 (B : Md) (x1 : Int32) (x2 : Int32) (x3 : Int32) (x4 : Int32) : Option ((Int32) ⊕ (Unit) ⊕ (Int32)) :=
  J_237_10_j52 B x1 x2 x3 x4 0
theorem j_237_10_j51 {d : Nat} (hd : 4 ≤ d) {scr : ASc} {res : ARe} {c n : Nat} {H : AHp} {b : Nat} {B : Md} {x1 : Int32} {x2 : Int32} {x3 : Int32} {x4 : Int32} (hR : Rg H b (Md.cells b B)) {o : (Int32) ⊕ (Unit) ⊕ (Int32)} (hr : J_237_10_j51 B x1 x2 x3 x4 = some o) (ka : ∀ s, o = .inl s → Ex d am_M237 scr (P_237_10 H b c n B x1 x2 x3 s) res) (kx : ∀ s, o = .inr (.inl s) → Ex d am_M237 scr (PX_237_10 H b c n B x1 x2 x3 s) res) (kr : ∀ r, o = .inr (.inr r) → res = (.inl (some (.int r)), H, c, n)) : Ex d am_M237 scr (51, [some (.ref b), some (.int x1), some (.int x2), some (.int x3), some (.int x4), none], [], H, c, n) res := by
  delta J_237_10_j51 at hr
  refine x_b 1 (S2 := (52, [some (.ref b), some (.int x1), some (.int x2), some (.int x3), some (.int x4), none], [.int 0], H, c, n)) rfl ?_
  refine x_fg (Lq.s (Lq.s (Lq.s (Lq.s (Lq.s (Lq.s Lq.nil)))))) ?_
  exact j_237_10_j52 hd hR hr ka kx kr
def G_237_10 (B : Md) (x1 : Int32) (x2 : Int32) (x3 : Int32) (s : Int32) : Option ((Int32) ⊕ (Unit) ⊕ (Int32)) := 
  match s with
  | x4 =>
    (ix 0 93).bind fun i3 =>
    if (B.now i3) ≤ x4 then
      some (.inr (.inl ()))
    else
      (F_175 B x3 x4).bind fun v7 =>
      if v7 = 0 then
        J_237_10_j51 B x1 x2 x3 x4
      else
        (F_183 B x2 x4).bind fun v19 =>
        (F_183 B x2 x3).bind fun v21 =>
        if v19 ≤ v21 then
          J_237_10_j51 B x1 x2 x3 x4
        else
          J_237_10_j52 B x1 x2 x3 x4 1
theorem g_237_10 {d : Nat} (hd : 4 ≤ d) {scr : ASc} {res : ARe} {c n : Nat} {H : AHp} {b : Nat} {B : Md} {x1 : Int32} {x2 : Int32} {x3 : Int32} (hR : Rg H b (Md.cells b B)) {s : Int32} {o : (Int32) ⊕ (Unit) ⊕ (Int32)} (hr : G_237_10 B x1 x2 x3 s = some o) (ka : ∀ s, o = .inl s → Ex d am_M237 scr (P_237_10 H b c n B x1 x2 x3 s) res) (kx : ∀ s, o = .inr (.inl s) → Ex d am_M237 scr (PX_237_10 H b c n B x1 x2 x3 s) res) (kr : ∀ r, o = .inr (.inr r) → res = (.inl (some (.int r)), H, c, n)) : Ex d am_M237 scr (P_237_10 H b c n B x1 x2 x3 s) res := by
  delta G_237_10 at hr
  show Ex d am_M237 scr (10, [some (.ref b), some (.int x1), some (.int x2), some (.int x3), some (.int s), none], [], H, c, n) res
  refine x_b 1 (S2 := (12, [some (.ref b), some (.int x1), some (.int x2), some (.int x3), some (.int s), none], [.int s], H, c, n)) rfl ?_
  refine x_ldan rfl rfl rfl (hR.lt (i := 0) (show 0 < 17 by decide)) ?_
  refine x_getf rfl rfl (hR.lt (i := 0) (show 0 < 17 by decide)) (hR.at (i := 0) rfl) rfl ?_
  refine x_b 1 (S2 := (17, [some (.ref b), some (.int x1), some (.int x2), some (.int x3), some (.int s), none], [.int 0, .ref (b + 3), .int s], H, c, n)) rfl ?_
  obtain ⟨i3, h4, hr⟩ := bd_some hr
  refine x_iald rfl rfl (hR.lt (i := 3) (show 3 < 17 by decide)) (hR.at (i := 3) rfl) h4 ?_
  rcases ite_some hr with ⟨h5, hr⟩ | ⟨h5, hr⟩
  · refine x_ct rfl rfl (decide_eq_true h5) ?_
    refine x_fg (Lq.n (Lq.n (Lq.n (Lq.n (Lq.n (Lq.s Lq.nil)))))) ?_
    exact kx () (Option.some.inj hr).symm
  · refine x_cf rfl rfl (decide_eq_false h5) ?_
    refine x_ldan rfl rfl rfl (hR.lt (i := 0) (show 0 < 17 by decide)) ?_
    refine x_b 2 (S2 := (25, [some (.ref b), some (.int x1), some (.int x2), some (.int x3), some (.int s), none], [.int s, .int x3, .ref b], H, c, n)) rfl ?_
    obtain ⟨v7, h6, hr⟩ := bd_some hr
    refine x_c0 (m_175 hR h6) rfl rfl rfl rfl (am_recv_v (hR.lt (i := 0) (show 0 < 17 by decide)) (hR.at (i := 0) rfl) rfl) (by omega) ?_
    rcases ite_some hr with ⟨h8, hr⟩ | ⟨h8, hr⟩
    · refine x_zt rfl rfl (decide_eq_true h8) ?_
      refine x_fg (Lq.s (Lq.s (Lq.s (Lq.s (Lq.s (Lq.s Lq.nil)))))) ?_
      exact j_237_10_j51 hd hR hr ka kx kr
    · refine x_zf rfl rfl (decide_eq_false h8) ?_
      refine x_ldan rfl rfl rfl (hR.lt (i := 0) (show 0 < 17 by decide)) ?_
      refine x_b 2 (S2 := (35, [some (.ref b), some (.int x1), some (.int x2), some (.int x3), some (.int s), none], [.int s, .int x2, .ref b], H, c, n)) rfl ?_
      obtain ⟨v19, h18, hr⟩ := bd_some hr
      refine x_c0 (m_183 hR h18) rfl rfl rfl rfl (am_recv_v (hR.lt (i := 0) (show 0 < 17 by decide)) (hR.at (i := 0) rfl) rfl) (by omega) ?_
      refine x_ldan rfl rfl rfl (hR.lt (i := 0) (show 0 < 17 by decide)) ?_
      refine x_b 2 (S2 := (41, [some (.ref b), some (.int x1), some (.int x2), some (.int x3), some (.int s), none], [.int x3, .int x2, .ref b, .int v19], H, c, n)) rfl ?_
      obtain ⟨v21, h20, hr⟩ := bd_some hr
      refine x_c0 (m_183 hR h20) rfl rfl rfl rfl (am_recv_v (hR.lt (i := 0) (show 0 < 17 by decide)) (hR.at (i := 0) rfl) rfl) (by omega) ?_
      rcases ite_some hr with ⟨h22, hr⟩ | ⟨h22, hr⟩
      · refine x_ct rfl rfl (decide_eq_true h22) ?_
        refine x_fg (Lq.s (Lq.s (Lq.s (Lq.s (Lq.s (Lq.s Lq.nil)))))) ?_
        exact j_237_10_j51 hd hR hr ka kx kr
      · refine x_cf rfl rfl (decide_eq_false h22) ?_
        refine x_b 2 (S2 := (52, [some (.ref b), some (.int x1), some (.int x2), some (.int x3), some (.int s), none], [.int 1], H, c, n)) rfl ?_
        refine x_fg (Lq.s (Lq.s (Lq.s (Lq.s (Lq.s (Lq.s Lq.nil)))))) ?_
        exact j_237_10_j52 hd hR hr ka kx kr
/-- PebbleProofsModel.goesOn(II)Z -/
def F_237 (B : Md) (x1 : Int32) (x2 : Int32) : Option (Int32) :=
  (F_236 B x1 x2).bind fun v2 =>
  (lw (G_237_10 B x1 x2 v2) 200000 0).bind fun r =>
    match r with
    | .inr r26 => some r26
    | .inl _ =>
      some 1
theorem f_237 {d : Nat} (hd : 4 ≤ d) {scr : ASc} {res : ARe} {c n : Nat} {H : AHp} {b : Nat} {B : Md} {x1 : Int32} {x2 : Int32} (hR : Rg H b (Md.cells b B)) {o : Int32} (hr : F_237 B x1 x2 = some o) (kr : res = (.inl (some (.int o)), H, c, n)) : Ex d am_M237 scr (0, [some (.ref b), some (.int x1), some (.int x2), none, none, none], [], H, c, n) res := by
  delta F_237 at hr
  refine x_ldan rfl rfl rfl (hR.lt (i := 0) (show 0 < 17 by decide)) ?_
  refine x_b 2 (S2 := (3, [some (.ref b), some (.int x1), some (.int x2), none, none, none], [.int x2, .int x1, .ref b], H, c, n)) rfl ?_
  obtain ⟨v2, h1, hr⟩ := bd_some hr
  refine x_c0 (m_236 hR h1) rfl rfl rfl rfl (am_recv_v (hR.lt (i := 0) (show 0 < 17 by decide)) (hR.at (i := 0) rfl) rfl) (by omega) ?_
  refine x_b 3 (S2 := (10, [some (.ref b), some (.int x1), some (.int x2), some (.int v2), some (.int 0), none], [], H, c, n)) rfl ?_
  refine x_fg (Lq.s (Lq.s (Lq.s (Lq.s (Lq.s (Lq.s Lq.nil)))))) ?_
  obtain ⟨o24, h23, hr⟩ := bd_some hr
  refine x_lw (P := P_237_10 H b c n B x1 x2 v2) (Q := fun x => match x with | .inl e => Ex d am_M237 scr (PX_237_10 H b c n B x1 x2 v2 e) res | .inr r => res = (.inl (some (.int r)), H, c, n)) (fun s o h1 ka kx => g_237_10 hd hR h1 ka (fun e he => kx (.inl e) he) (fun r he => kx (.inr r) he)) _ 0 _ h23 ?_
  rcases o24 with e | r26
  · show Ex d am_M237 scr (105, [none, none, none, none, none, none], [], H, c, n) res
    refine x_b 1 (S2 := (106, [none, none, none, none, none, none], [.int 1], H, c, n)) rfl ?_
    cases hr
    rw [kr]
    exact x_ret rfl rfl (am_ret_z (by decide))
  · cases hr; exact kr
theorem m_237 {H : AHp} {b : Nat} {B : Md} {x1 : Int32} {x2 : Int32} (hR : Rg H b (Md.cells b B)) {o : Int32} (hr : F_237 B x1 x2 = some o) : Rn 5 237 [.ref b, .int x1, .int x2] H (.inl (some (.int o)), H, 0, 0) :=
  x_meth (M := am_M237) rfl (show 3 ≤ 6 by decide) (f_237 (Nat.le_refl _) hR hr rfl)
def J_238_0_j46 (B : Md) : Option (Int32 × (Md)) :=
  some (0, B)
theorem j_238_0_j46 {d : Nat} (hd : 5 ≤ d) {scr : ASc} {res : ARe} {c n : Nat} {h : AHp} {b : Nat} (hb : b + 17 ≤ am_SB) (hh : b + 17 ≤ h.length) {B : Md} {o : Int32 × (Md)} (hr : J_238_0_j46 B = some o) (kr : res = (.inl (some (.int o.1)), hput h b (Md.cells b o.2), c, n)) : Ex d am_M238 scr (46, [none, none, none, none, none], [], (hput h b (Md.cells b B)), c, n) res := by
  delta J_238_0_j46 at hr
  refine x_b 1 (S2 := (47, [none, none, none, none, none], [.int 0], (hput h b (Md.cells b B)), c, n)) rfl ?_
  cases hr
  rw [kr]
  exact x_ret rfl rfl am_ret_i
abbrev P_238_57 (h : AHp) (b : Nat) (c n : Nat) (B : Md) (x1 : Int32) (s : Int32 × Int32) : ASt := (57, [some (.ref b), some (.int x1), some (.int s.1), some (.int s.2), none], [], (hput h b (Md.cells b B)), c, n)
abbrev PX_238_57 (h : AHp) (b : Nat) (c n : Nat) (B : Md) (x1 : Int32) (s : Int32) : ASt := (131, [none, none, some (.int s), none, none], [], (hput h b (Md.cells b B)), c, n)
def J_238_57_j125 (B : Md) (x1 : Int32) (x2 : Int32) (x3 : Int32) : Option ((Int32 × Int32) ⊕ (Int32)) :=
  some (.inl (x2, (x3 + 1)))
theorem j_238_57_j125 {d : Nat} (hd : 5 ≤ d) {scr : ASc} {res : ARe} {c n : Nat} {h : AHp} {b : Nat} (hb : b + 17 ≤ am_SB) (hh : b + 17 ≤ h.length) {B : Md} {x1 : Int32} {x2 : Int32} {x3 : Int32} {o : (Int32 × Int32) ⊕ (Int32)} (hr : J_238_57_j125 B x1 x2 x3 = some o) (ka : ∀ s, o = .inl s → Ex d am_M238 scr (P_238_57 h b c n B x1 s) res) (kx : ∀ s, o = .inr s → Ex d am_M238 scr (PX_238_57 h b c n B x1 s) res) : Ex d am_M238 scr (125, [some (.ref b), some (.int x1), some (.int x2), some (.int x3), none], [], (hput h b (Md.cells b B)), c, n) res := by
  delta J_238_57_j125 at hr
  refine x_b 2 (S2 := (57, [some (.ref b), some (.int x1), some (.int x2), some (.int (x3 + 1)), none], [], (hput h b (Md.cells b B)), c, n)) rfl ?_
  refine x_fg (Lq.s (Lq.s (Lq.s (Lq.s (Lq.s Lq.nil))))) ?_
  exact ka (x2, (x3 + 1)) (Option.some.inj hr).symm
def J_238_57_j123 (B : Md) (x1 : Int32) (x3 : Int32) (t0 : Int32) (t1 : Int32) : Option ((Int32 × Int32) ⊕ (Int32)) :=
  J_238_57_j125 B x1 (t1 + t0) x3
theorem j_238_57_j123 {d : Nat} (hd : 5 ≤ d) {scr : ASc} {res : ARe} {c n : Nat} {h : AHp} {b : Nat} (hb : b + 17 ≤ am_SB) (hh : b + 17 ≤ h.length) {B : Md} {x1 : Int32} {x3 : Int32} {t0 : Int32} {t1 : Int32} {o : (Int32 × Int32) ⊕ (Int32)} (hr : J_238_57_j123 B x1 x3 t0 t1 = some o) (ka : ∀ s, o = .inl s → Ex d am_M238 scr (P_238_57 h b c n B x1 s) res) (kx : ∀ s, o = .inr s → Ex d am_M238 scr (PX_238_57 h b c n B x1 s) res) : Ex d am_M238 scr (123, [some (.ref b), some (.int x1), none, some (.int x3), none], [.int t0, .int t1], (hput h b (Md.cells b B)), c, n) res := by
  delta J_238_57_j123 at hr
  refine x_b 2 (S2 := (125, [some (.ref b), some (.int x1), some (.int (t1 + t0)), some (.int x3), none], [], (hput h b (Md.cells b B)), c, n)) rfl ?_
  refine x_fg (Lq.s (Lq.s (Lq.s (Lq.s (Lq.s Lq.nil))))) ?_
  exact j_238_57_j125 hd hb hh hr ka kx
def J_238_57_j99 (B : Md) (x1 : Int32) (x2 : Int32) (x3 : Int32) (t0 : Int32) : Option ((Int32 × Int32) ⊕ (Int32)) :=
  if t0 = 0 then
    J_238_57_j123 B x1 x3 0 x2
  else
    (ix x3 6).bind fun i28 =>
    J_238_57_j123 B x1 x3 ((1 <<< (((B.heights i28) + 1) &&& 31)) - 1) x2
theorem j_238_57_j99 {d : Nat} (hd : 5 ≤ d) {scr : ASc} {res : ARe} {c n : Nat} {h : AHp} {b : Nat} (hb : b + 17 ≤ am_SB) (hh : b + 17 ≤ h.length) {B : Md} {x1 : Int32} {x2 : Int32} {x3 : Int32} {t0 : Int32} {o : (Int32 × Int32) ⊕ (Int32)} (hr : J_238_57_j99 B x1 x2 x3 t0 = some o) (ka : ∀ s, o = .inl s → Ex d am_M238 scr (P_238_57 h b c n B x1 s) res) (kx : ∀ s, o = .inr s → Ex d am_M238 scr (PX_238_57 h b c n B x1 s) res) : Ex d am_M238 scr (99, [some (.ref b), some (.int x1), some (.int x2), some (.int x3), none], [.int t0], (hput h b (Md.cells b B)), c, n) res := by
  delta J_238_57_j99 at hr
  refine x_b 3 (S2 := (104, [some (.ref b), some (.int x1), some (.int x2), some (.int x3), some (.int t0)], [.int t0, .int x2], (hput h b (Md.cells b B)), c, n)) rfl ?_
  rcases ite_some hr with ⟨h27, hr⟩ | ⟨h27, hr⟩
  · refine x_zt rfl rfl (decide_eq_true h27) ?_
    refine x_b 1 (S2 := (123, [some (.ref b), some (.int x1), some (.int x2), some (.int x3), some (.int t0)], [.int 0, .int x2], (hput h b (Md.cells b B)), c, n)) rfl ?_
    refine x_fg (Lq.s (Lq.s (Lq.n (Lq.s (Lq.n Lq.nil))))) ?_
    exact j_238_57_j123 hd hb hh hr ka kx
  · refine x_zf rfl rfl (decide_eq_false h27) ?_
    refine x_b 1 (S2 := (108, [some (.ref b), some (.int x1), some (.int x2), some (.int x3), some (.int t0)], [.int 1, .int x2], (hput h b (Md.cells b B)), c, n)) rfl ?_
    refine x_ldan rfl rfl rfl (h_lt (i := 0) hb (by decide)) ?_
    refine x_getf rfl rfl (h_lt (i := 0) hb (by decide)) (hp_at (i := 0) hh rfl rfl) rfl ?_
    refine x_b 1 (S2 := (113, [some (.ref b), some (.int x1), some (.int x2), some (.int x3), some (.int t0)], [.int x3, .ref (b + 16), .int 1, .int x2], (hput h b (Md.cells b B)), c, n)) rfl ?_
    obtain ⟨i28, h29, hr⟩ := bd_some hr
    refine x_iald rfl rfl (h_lt (i := 16) hb (by decide)) (hp_at (i := 16) hh rfl rfl) h29 ?_
    refine x_b 6 (S2 := (123, [some (.ref b), some (.int x1), some (.int x2), some (.int x3), some (.int t0)], [.int ((1 <<< (((B.heights i28) + 1) &&& 31)) - 1), .int x2], (hput h b (Md.cells b B)), c, n)) rfl ?_
    refine x_fg (Lq.s (Lq.s (Lq.n (Lq.s (Lq.n Lq.nil))))) ?_
    exact j_238_57_j123 hd hb hh hr ka kx
def J_238_57_j94 (B : Md) (x1 : Int32) (x2 : Int32) (x3 : Int32) : Option ((Int32 × Int32) ⊕ (Int32)) :=
  J_238_57_j99 B x1 x2 x3 1
theorem j_238_57_j94 {d : Nat} (hd : 5 ≤ d) {scr : ASc} {res : ARe} {c n : Nat} {h : AHp} {b : Nat} (hb : b + 17 ≤ am_SB) (hh : b + 17 ≤ h.length) {B : Md} {x1 : Int32} {x2 : Int32} {x3 : Int32} {o : (Int32 × Int32) ⊕ (Int32)} (hr : J_238_57_j94 B x1 x2 x3 = some o) (ka : ∀ s, o = .inl s → Ex d am_M238 scr (P_238_57 h b c n B x1 s) res) (kx : ∀ s, o = .inr s → Ex d am_M238 scr (PX_238_57 h b c n B x1 s) res) : Ex d am_M238 scr (94, [some (.ref b), some (.int x1), some (.int x2), some (.int x3), none], [], (hput h b (Md.cells b B)), c, n) res := by
  delta J_238_57_j94 at hr
  refine x_b 2 (S2 := (99, [some (.ref b), some (.int x1), some (.int x2), some (.int x3), none], [.int 1], (hput h b (Md.cells b B)), c, n)) rfl ?_
  refine x_fg (Lq.s (Lq.s (Lq.s (Lq.s (Lq.s Lq.nil))))) ?_
  exact j_238_57_j99 hd hb hh hr ka kx
def G_238_57 (B : Md) (x1 : Int32) (s : Int32 × Int32) : Option ((Int32 × Int32) ⊕ (Int32)) := 
  match s with
  | (x2, x3) =>
    (ix 0 93).bind fun i20 =>
    if (B.now i20) ≤ x3 then
      some (.inr x2)
    else
      if ¬ x3 = x1 then
        (F_236 B x3 x1).bind fun v25 =>
        if v25 = x1 then
          J_238_57_j94 B x1 x2 x3
        else
          (F_237 B x3 x1).bind fun v31 =>
          if ¬ v31 = 0 then
            J_238_57_j99 B x1 x2 x3 0
          else
            J_238_57_j94 B x1 x2 x3
      else
        J_238_57_j125 B x1 x2 x3
theorem g_238_57 {d : Nat} (hd : 5 ≤ d) {scr : ASc} {res : ARe} {c n : Nat} {h : AHp} {b : Nat} (hb : b + 17 ≤ am_SB) (hh : b + 17 ≤ h.length) {B : Md} {x1 : Int32} {s : Int32 × Int32} {o : (Int32 × Int32) ⊕ (Int32)} (hr : G_238_57 B x1 s = some o) (ka : ∀ s, o = .inl s → Ex d am_M238 scr (P_238_57 h b c n B x1 s) res) (kx : ∀ s, o = .inr s → Ex d am_M238 scr (PX_238_57 h b c n B x1 s) res) : Ex d am_M238 scr (P_238_57 h b c n B x1 s) res := by
  obtain ⟨x2, x3⟩ := s
  delta G_238_57 at hr
  show Ex d am_M238 scr (57, [some (.ref b), some (.int x1), some (.int x2), some (.int x3), none], [], (hput h b (Md.cells b B)), c, n) res
  refine x_b 1 (S2 := (58, [some (.ref b), some (.int x1), some (.int x2), some (.int x3), none], [.int x3], (hput h b (Md.cells b B)), c, n)) rfl ?_
  refine x_ldan rfl rfl rfl (h_lt (i := 0) hb (by decide)) ?_
  refine x_getf rfl rfl (h_lt (i := 0) hb (by decide)) (hp_at (i := 0) hh rfl rfl) rfl ?_
  refine x_b 1 (S2 := (63, [some (.ref b), some (.int x1), some (.int x2), some (.int x3), none], [.int 0, .ref (b + 3), .int x3], (hput h b (Md.cells b B)), c, n)) rfl ?_
  obtain ⟨i20, h21, hr⟩ := bd_some hr
  refine x_iald rfl rfl (h_lt (i := 3) hb (by decide)) (hp_at (i := 3) hh rfl rfl) h21 ?_
  rcases ite_some hr with ⟨h22, hr⟩ | ⟨h22, hr⟩
  · refine x_ct rfl rfl (decide_eq_true h22) ?_
    refine x_fg (Lq.n (Lq.n (Lq.s (Lq.n (Lq.s Lq.nil))))) ?_
    exact kx x2 (Option.some.inj hr).symm
  · refine x_cf rfl rfl (decide_eq_false h22) ?_
    refine x_b 2 (S2 := (69, [some (.ref b), some (.int x1), some (.int x2), some (.int x3), none], [.int x1, .int x3], (hput h b (Md.cells b B)), c, n)) rfl ?_
    rcases ite_some hr with ⟨h23, hr⟩ | ⟨h23, hr⟩
    · refine x_ct rfl rfl (decide_eq_true h23) ?_
      refine x_ldan rfl rfl rfl (h_lt (i := 0) hb (by decide)) ?_
      refine x_b 2 (S2 := (78, [some (.ref b), some (.int x1), some (.int x2), some (.int x3), none], [.int x1, .int x3, .ref b], (hput h b (Md.cells b B)), c, n)) rfl ?_
      obtain ⟨v25, h24, hr⟩ := bd_some hr
      refine x_c0 (m_236 (hp_rg hb hh rfl) h24) rfl rfl rfl rfl (am_recv_v (h_lt (i := 0) hb (by decide)) (hp_at (i := 0) hh rfl rfl) rfl) (by omega) ?_
      refine x_b 1 (S2 := (82, [some (.ref b), some (.int x1), some (.int x2), some (.int x3), none], [.int x1, .int v25], (hput h b (Md.cells b B)), c, n)) rfl ?_
      rcases ite_some hr with ⟨h26, hr⟩ | ⟨h26, hr⟩
      · refine x_ct rfl rfl (decide_eq_true h26) ?_
        refine x_fg (Lq.s (Lq.s (Lq.s (Lq.s (Lq.s Lq.nil))))) ?_
        exact j_238_57_j94 hd hb hh hr ka kx
      · refine x_cf rfl rfl (decide_eq_false h26) ?_
        refine x_ldan rfl rfl rfl (h_lt (i := 0) hb (by decide)) ?_
        refine x_b 2 (S2 := (88, [some (.ref b), some (.int x1), some (.int x2), some (.int x3), none], [.int x1, .int x3, .ref b], (hput h b (Md.cells b B)), c, n)) rfl ?_
        obtain ⟨v31, h30, hr⟩ := bd_some hr
        refine x_c0 (m_237 (hp_rg hb hh rfl) h30) rfl rfl rfl rfl (am_recv_v (h_lt (i := 0) hb (by decide)) (hp_at (i := 0) hh rfl rfl) rfl) (by omega) ?_
        rcases ite_some hr with ⟨h32, hr⟩ | ⟨h32, hr⟩
        · refine x_zt rfl rfl (decide_eq_true h32) ?_
          refine x_b 1 (S2 := (99, [some (.ref b), some (.int x1), some (.int x2), some (.int x3), none], [.int 0], (hput h b (Md.cells b B)), c, n)) rfl ?_
          refine x_fg (Lq.s (Lq.s (Lq.s (Lq.s (Lq.s Lq.nil))))) ?_
          exact j_238_57_j99 hd hb hh hr ka kx
        · refine x_zf rfl rfl (decide_eq_false h32) ?_
          refine x_fg (Lq.s (Lq.s (Lq.s (Lq.s (Lq.s Lq.nil))))) ?_
          exact j_238_57_j94 hd hb hh hr ka kx
    · refine x_cf rfl rfl (decide_eq_false h23) ?_
      refine x_b 1 (S2 := (125, [some (.ref b), some (.int x1), some (.int x2), some (.int x3), none], [], (hput h b (Md.cells b B)), c, n)) rfl ?_
      refine x_fg (Lq.s (Lq.s (Lq.s (Lq.s (Lq.s Lq.nil))))) ?_
      exact j_238_57_j125 hd hb hh hr ka kx
def J_238_0_j39 (B : Md) (x1 : Int32) (t0 : Int32) : Option (Int32 × (Md)) :=
  (F_135 B t0 2).bind fun (v15, B16) =>
  if v15 = 0 then
    (F_235 B16 x1).bind fun B19 =>
    (lw (G_238_57 B19 x1) 200000 (1, 0)).bind fun v34 =>
    some (v34, B19)
  else
    J_238_0_j46 B16
theorem j_238_0_j39 {d : Nat} (hd : 5 ≤ d) {scr : ASc} {res : ARe} {c n : Nat} {h : AHp} {b : Nat} (hb : b + 17 ≤ am_SB) (hh : b + 17 ≤ h.length) {B : Md} {x1 : Int32} {t0 : Int32} {o : Int32 × (Md)} (hr : J_238_0_j39 B x1 t0 = some o) (kr : res = (.inl (some (.int o.1)), hput h b (Md.cells b o.2), c, n)) : Ex d am_M238 scr (39, [some (.ref b), some (.int x1), none, none, none], [.int t0, .ref b], (hput h b (Md.cells b B)), c, n) res := by
  delta J_238_0_j39 at hr
  refine x_b 1 (S2 := (40, [some (.ref b), some (.int x1), none, none, none], [.int 2, .int t0, .ref b], (hput h b (Md.cells b B)), c, n)) rfl ?_
  obtain ⟨⟨v15, B16⟩, h14, hr⟩ := bd_some hr
  refine x_c0 (m_135 hb hh h14) rfl rfl rfl rfl (am_recv_v (h_lt (i := 0) hb (by decide)) (hp_at (i := 0) hh rfl rfl) rfl) (by omega) ?_
  rcases ite_some hr with ⟨h17, hr⟩ | ⟨h17, hr⟩
  · refine x_zt rfl rfl (decide_eq_true h17) ?_
    refine x_ldan rfl rfl rfl (h_lt (i := 0) hb (by decide)) ?_
    refine x_b 1 (S2 := (50, [some (.ref b), some (.int x1), none, none, none], [.int x1, .ref b], (hput h b (Md.cells b B16)), c, n)) rfl ?_
    obtain ⟨B19, h18, hr⟩ := bd_some hr
    refine x_c0 (m_235 hb hh h18) rfl rfl rfl rfl (am_recv_v (h_lt (i := 0) hb (by decide)) (hp_at (i := 0) hh rfl rfl) rfl) (by omega) ?_
    refine x_b 4 (S2 := (57, [some (.ref b), some (.int x1), some (.int 1), some (.int 0), none], [], (hput h b (Md.cells b B19)), c, n)) rfl ?_
    refine x_fg (Lq.s (Lq.s (Lq.s (Lq.s (Lq.s Lq.nil))))) ?_
    obtain ⟨v34, h33, hr⟩ := bd_some hr
    refine x_lw (P := P_238_57 h b c n B19 x1) (Q := fun x => Ex d am_M238 scr (PX_238_57 h b c n B19 x1 x) res) (fun s o h1 ka kx => g_238_57 hd hb hh h1 ka kx) _ (1, 0) _ h33 ?_
    show Ex d am_M238 scr (131, [none, none, some (.int v34), none, none], [], (hput h b (Md.cells b B19)), c, n) res
    refine x_b 1 (S2 := (132, [none, none, some (.int v34), none, none], [.int v34], (hput h b (Md.cells b B19)), c, n)) rfl ?_
    cases hr
    rw [kr]
    exact x_ret rfl rfl am_ret_i
  · refine x_zf rfl rfl (decide_eq_false h17) ?_
    refine x_fg (Lq.n (Lq.n (Lq.s (Lq.s (Lq.s Lq.nil))))) ?_
    exact j_238_0_j46 hd hb hh hr kr
/-- PebbleProofsModel.treeNumber(I)I -/
def F_238 (B : Md) (x1 : Int32) : Option (Int32 × (Md)) :=
  (some (B.w_thrown 0)).bind fun B1 =>
  (F_172 B1 x1).bind fun v4 =>
  (F_135 B1 v4 1).bind fun (v6, B7) =>
  if ¬ v6 = 0 then
    J_238_0_j46 B7
  else
    (F_178 B7).bind fun v10 =>
    (ix 0 93).bind fun i11 =>
    if ¬ v10 = ((B7.now i11) - 1) then
      J_238_0_j39 B7 x1 0
    else
      J_238_0_j39 B7 x1 1
theorem f_238 {d : Nat} (hd : 5 ≤ d) {scr : ASc} {res : ARe} {c n : Nat} {h : AHp} {b : Nat} (hb : b + 17 ≤ am_SB) (hh : b + 17 ≤ h.length) {B : Md} {x1 : Int32} {o : Int32 × (Md)} (hr : F_238 B x1 = some o) (kr : res = (.inl (some (.int o.1)), hput h b (Md.cells b o.2), c, n)) : Ex d am_M238 scr (0, [some (.ref b), some (.int x1), none, none, none], [], (hput h b (Md.cells b B)), c, n) res := by
  delta F_238 at hr
  refine x_ldan rfl rfl rfl (h_lt (i := 0) hb (by decide)) ?_
  refine x_b 1 (S2 := (2, [some (.ref b), some (.int x1), none, none, none], [.int 0, .ref b], (hput h b (Md.cells b B)), c, n)) rfl ?_
  obtain ⟨B1, h2, hr⟩ := bd_some hr
  refine x_putf (H := (hput h b (Md.cells b B1))) rfl rfl (h_lt (i := 0) hb (by decide)) (hp_at (i := 0) hh rfl rfl) ⟨(show 0 < 28 by decide), rfl, rfl, nofun⟩ (hp_set (i := 0) hh rfl (by decide) (Md.s_thrown rfl h2)) ?_
  refine x_ldan rfl rfl rfl (h_lt (i := 0) hb (by decide)) ?_
  refine x_ldan rfl rfl rfl (h_lt (i := 0) hb (by decide)) ?_
  refine x_b 1 (S2 := (8, [some (.ref b), some (.int x1), none, none, none], [.int x1, .ref b, .ref b], (hput h b (Md.cells b B1)), c, n)) rfl ?_
  obtain ⟨v4, h3, hr⟩ := bd_some hr
  refine x_c0 (m_172 (hp_rg hb hh rfl) h3) rfl rfl rfl rfl (am_recv_v (h_lt (i := 0) hb (by decide)) (hp_at (i := 0) hh rfl rfl) rfl) (by omega) ?_
  refine x_b 1 (S2 := (12, [some (.ref b), some (.int x1), none, none, none], [.int 1, .int v4, .ref b], (hput h b (Md.cells b B1)), c, n)) rfl ?_
  obtain ⟨⟨v6, B7⟩, h5, hr⟩ := bd_some hr
  refine x_c0 (m_135 hb hh h5) rfl rfl rfl rfl (am_recv_v (h_lt (i := 0) hb (by decide)) (hp_at (i := 0) hh rfl rfl) rfl) (by omega) ?_
  rcases ite_some hr with ⟨h8, hr⟩ | ⟨h8, hr⟩
  · refine x_zt rfl rfl (decide_eq_true h8) ?_
    refine x_fg (Lq.n (Lq.n (Lq.s (Lq.s (Lq.s Lq.nil))))) ?_
    exact j_238_0_j46 hd hb hh hr kr
  · refine x_zf rfl rfl (decide_eq_false h8) ?_
    refine x_ldan rfl rfl rfl (h_lt (i := 0) hb (by decide)) ?_
    refine x_ldan rfl rfl rfl (h_lt (i := 0) hb (by decide)) ?_
    obtain ⟨v10, h9, hr⟩ := bd_some hr
    refine x_c0 (m_178 (hp_rg hb hh rfl) h9) rfl rfl rfl rfl (am_recv_v (h_lt (i := 0) hb (by decide)) (hp_at (i := 0) hh rfl rfl) rfl) (by omega) ?_
    refine x_ldan rfl rfl rfl (h_lt (i := 0) hb (by decide)) ?_
    refine x_getf rfl rfl (h_lt (i := 0) hb (by decide)) (hp_at (i := 0) hh rfl rfl) rfl ?_
    refine x_b 1 (S2 := (28, [some (.ref b), some (.int x1), none, none, none], [.int 0, .ref (b + 3), .int v10, .ref b], (hput h b (Md.cells b B7)), c, n)) rfl ?_
    obtain ⟨i11, h12, hr⟩ := bd_some hr
    refine x_iald rfl rfl (h_lt (i := 3) hb (by decide)) (hp_at (i := 3) hh rfl rfl) h12 ?_
    refine x_b 2 (S2 := (31, [some (.ref b), some (.int x1), none, none, none], [.int ((B7.now i11) - 1), .int v10, .ref b], (hput h b (Md.cells b B7)), c, n)) rfl ?_
    rcases ite_some hr with ⟨h13, hr⟩ | ⟨h13, hr⟩
    · refine x_ct rfl rfl (decide_eq_true h13) ?_
      refine x_b 1 (S2 := (39, [some (.ref b), some (.int x1), none, none, none], [.int 0, .ref b], (hput h b (Md.cells b B7)), c, n)) rfl ?_
      refine x_fg (Lq.s (Lq.s (Lq.s (Lq.s (Lq.s Lq.nil))))) ?_
      exact j_238_0_j39 hd hb hh hr kr
    · refine x_cf rfl rfl (decide_eq_false h13) ?_
      refine x_b 2 (S2 := (39, [some (.ref b), some (.int x1), none, none, none], [.int 1, .ref b], (hput h b (Md.cells b B7)), c, n)) rfl ?_
      refine x_fg (Lq.s (Lq.s (Lq.s (Lq.s (Lq.s Lq.nil))))) ?_
      exact j_238_0_j39 hd hb hh hr kr
theorem m_238 {h : AHp} {b : Nat} (hb : b + 17 ≤ am_SB) (hh : b + 17 ≤ h.length) {B : Md} {x1 : Int32} {o : Int32 × (Md)} (hr : F_238 B x1 = some o) : Rn 6 238 [.ref b, .int x1] (hput h b (Md.cells b B)) (.inl (some (.int o.1)), hput h b (Md.cells b o.2), 0, 0) :=
  x_meth (M := am_M238) rfl (show 2 ≤ 5 by decide) (f_238 (Nat.le_refl _) hb hh hr rfl)
def J_239_0_j51 (B : Md) : Option (Int32 × (Md)) :=
  some (0, B)
theorem j_239_0_j51 {d : Nat} (hd : 3 ≤ d) {scr : ASc} {res : ARe} {c n : Nat} {h : AHp} {b : Nat} (hb : b + 17 ≤ am_SB) (hh : b + 17 ≤ h.length) {B : Md} {o : Int32 × (Md)} (hr : J_239_0_j51 B = some o) (kr : res = (.inl (some (.int o.1)), hput h b (Md.cells b o.2), c, n)) : Ex d am_M239 scr (51, [none, none, none, none], [], (hput h b (Md.cells b B)), c, n) res := by
  delta J_239_0_j51 at hr
  refine x_b 1 (S2 := (52, [none, none, none, none], [.int 0], (hput h b (Md.cells b B)), c, n)) rfl ?_
  cases hr
  rw [kr]
  exact x_ret rfl rfl am_ret_i
def J_239_0_j84 (B : Md) (t0 : Int32) : Option (Int32 × (Md)) :=
  some (t0, B)
theorem j_239_0_j84 {d : Nat} (hd : 3 ≤ d) {scr : ASc} {res : ARe} {c n : Nat} {h : AHp} {b : Nat} (hb : b + 17 ≤ am_SB) (hh : b + 17 ≤ h.length) {B : Md} {t0 : Int32} {o : Int32 × (Md)} (hr : J_239_0_j84 B t0 = some o) (kr : res = (.inl (some (.int o.1)), hput h b (Md.cells b o.2), c, n)) : Ex d am_M239 scr (84, [none, none, none, none], [.int t0], (hput h b (Md.cells b B)), c, n) res := by
  delta J_239_0_j84 at hr
  cases hr
  rw [kr]
  exact x_ret rfl rfl am_ret_i
def J_239_0_j79 (B : Md) (x2 : Int32) (t0 : Int32) (t1 : Int32) : Option (Int32 × (Md)) :=
  (F_177 B t1 (t0 + x2)).bind fun v19 =>
  J_239_0_j84 B v19
theorem j_239_0_j79 {d : Nat} (hd : 3 ≤ d) {scr : ASc} {res : ARe} {c n : Nat} {h : AHp} {b : Nat} (hb : b + 17 ≤ am_SB) (hh : b + 17 ≤ h.length) {B : Md} {x2 : Int32} {t0 : Int32} {t1 : Int32} {o : Int32 × (Md)} (hr : J_239_0_j79 B x2 t0 t1 = some o) (kr : res = (.inl (some (.int o.1)), hput h b (Md.cells b o.2), c, n)) : Ex d am_M239 scr (79, [none, none, some (.int x2), none], [.int t0, .int t1, .ref b], (hput h b (Md.cells b B)), c, n) res := by
  delta J_239_0_j79 at hr
  refine x_b 2 (S2 := (81, [none, none, some (.int x2), none], [.int (t0 + x2), .int t1, .ref b], (hput h b (Md.cells b B)), c, n)) rfl ?_
  obtain ⟨v19, h18, hr⟩ := bd_some hr
  refine x_c0 (m_177 (hp_rg hb hh rfl) h18) rfl rfl rfl rfl (am_recv_v (h_lt (i := 0) hb (by decide)) (hp_at (i := 0) hh rfl rfl) rfl) (by omega) ?_
  refine x_fg (Lq.s (Lq.s (Lq.n (Lq.s Lq.nil)))) ?_
  exact j_239_0_j84 hd hb hh hr kr
def J_239_0_j27 (B : Md) (x1 : Int32) (x2 : Int32) (x3 : Int32) (t0 : Int32) : Option (Int32 × (Md)) :=
  (F_135 B t0 1).bind fun (v7, B8) =>
  if ¬ v7 = 0 then
    J_239_0_j51 B8
  else
    (F_134 x3.toInt64 0 (2 : Int64)).bind fun v11 =>
    (F_135 B8 v11 2).bind fun (v13, B14) =>
    if v13 = 0 then
      if ¬ x3 = 0 then
        if ¬ x3 = 1 then
          J_239_0_j79 B14 x2 7 x1
        else
          J_239_0_j79 B14 x2 1 x1
      else
        (F_177 B14 x1 0).bind fun v21 =>
        J_239_0_j84 B14 v21
    else
      J_239_0_j51 B14
theorem j_239_0_j27 {d : Nat} (hd : 3 ≤ d) {scr : ASc} {res : ARe} {c n : Nat} {h : AHp} {b : Nat} (hb : b + 17 ≤ am_SB) (hh : b + 17 ≤ h.length) {B : Md} {x1 : Int32} {x2 : Int32} {x3 : Int32} {t0 : Int32} {o : Int32 × (Md)} (hr : J_239_0_j27 B x1 x2 x3 t0 = some o) (kr : res = (.inl (some (.int o.1)), hput h b (Md.cells b o.2), c, n)) : Ex d am_M239 scr (27, [some (.ref b), some (.int x1), some (.int x2), some (.int x3)], [.int t0, .ref b], (hput h b (Md.cells b B)), c, n) res := by
  delta J_239_0_j27 at hr
  refine x_b 1 (S2 := (28, [some (.ref b), some (.int x1), some (.int x2), some (.int x3)], [.int 1, .int t0, .ref b], (hput h b (Md.cells b B)), c, n)) rfl ?_
  obtain ⟨⟨v7, B8⟩, h6, hr⟩ := bd_some hr
  refine x_c0 (m_135 hb hh h6) rfl rfl rfl rfl (am_recv_v (h_lt (i := 0) hb (by decide)) (hp_at (i := 0) hh rfl rfl) rfl) (by omega) ?_
  rcases ite_some hr with ⟨h9, hr⟩ | ⟨h9, hr⟩
  · refine x_zt rfl rfl (decide_eq_true h9) ?_
    refine x_fg (Lq.n (Lq.n (Lq.n (Lq.n Lq.nil)))) ?_
    exact j_239_0_j51 hd hb hh hr kr
  · refine x_zf rfl rfl (decide_eq_false h9) ?_
    refine x_ldan rfl rfl rfl (h_lt (i := 0) hb (by decide)) ?_
    refine x_b 4 (S2 := (41, [some (.ref b), some (.int x1), some (.int x2), some (.int x3)], [.long (2 : Int64), .long 0, .long x3.toInt64, .ref b], (hput h b (Md.cells b B8)), c, n)) rfl ?_
    obtain ⟨v11, h10, hr⟩ := bd_some hr
    refine x_c0 (m_134 h10) rfl rfl rfl rfl rfl (by omega) ?_
    refine x_b 1 (S2 := (45, [some (.ref b), some (.int x1), some (.int x2), some (.int x3)], [.int 2, .int v11, .ref b], (hput h b (Md.cells b B8)), c, n)) rfl ?_
    obtain ⟨⟨v13, B14⟩, h12, hr⟩ := bd_some hr
    refine x_c0 (m_135 hb hh h12) rfl rfl rfl rfl (am_recv_v (h_lt (i := 0) hb (by decide)) (hp_at (i := 0) hh rfl rfl) rfl) (by omega) ?_
    rcases ite_some hr with ⟨h15, hr⟩ | ⟨h15, hr⟩
    · refine x_zt rfl rfl (decide_eq_true h15) ?_
      refine x_b 1 (S2 := (54, [some (.ref b), some (.int x1), some (.int x2), some (.int x3)], [.int x3], (hput h b (Md.cells b B14)), c, n)) rfl ?_
      rcases ite_some hr with ⟨h16, hr⟩ | ⟨h16, hr⟩
      · refine x_zt rfl rfl (decide_eq_true h16) ?_
        refine x_ldan rfl rfl rfl (h_lt (i := 0) hb (by decide)) ?_
        refine x_b 3 (S2 := (70, [some (.ref b), some (.int x1), some (.int x2), some (.int x3)], [.int 1, .int x3, .int x1, .ref b], (hput h b (Md.cells b B14)), c, n)) rfl ?_
        rcases ite_some hr with ⟨h17, hr⟩ | ⟨h17, hr⟩
        · refine x_ct rfl rfl (decide_eq_true h17) ?_
          refine x_b 1 (S2 := (79, [some (.ref b), some (.int x1), some (.int x2), some (.int x3)], [.int 7, .int x1, .ref b], (hput h b (Md.cells b B14)), c, n)) rfl ?_
          refine x_fg (Lq.n (Lq.n (Lq.s (Lq.n Lq.nil)))) ?_
          exact j_239_0_j79 hd hb hh hr kr
        · refine x_cf rfl rfl (decide_eq_false h17) ?_
          refine x_b 2 (S2 := (79, [some (.ref b), some (.int x1), some (.int x2), some (.int x3)], [.int 1, .int x1, .ref b], (hput h b (Md.cells b B14)), c, n)) rfl ?_
          refine x_fg (Lq.n (Lq.n (Lq.s (Lq.n Lq.nil)))) ?_
          exact j_239_0_j79 hd hb hh hr kr
      · refine x_zf rfl rfl (decide_eq_false h16) ?_
        refine x_ldan rfl rfl rfl (h_lt (i := 0) hb (by decide)) ?_
        refine x_b 2 (S2 := (60, [some (.ref b), some (.int x1), some (.int x2), some (.int x3)], [.int 0, .int x1, .ref b], (hput h b (Md.cells b B14)), c, n)) rfl ?_
        obtain ⟨v21, h20, hr⟩ := bd_some hr
        refine x_c0 (m_177 (hp_rg hb hh rfl) h20) rfl rfl rfl rfl (am_recv_v (h_lt (i := 0) hb (by decide)) (hp_at (i := 0) hh rfl rfl) rfl) (by omega) ?_
        refine x_b 1 (S2 := (84, [some (.ref b), some (.int x1), some (.int x2), some (.int x3)], [.int v21], (hput h b (Md.cells b B14)), c, n)) rfl ?_
        refine x_fg (Lq.n (Lq.n (Lq.n (Lq.n Lq.nil)))) ?_
        exact j_239_0_j84 hd hb hh hr kr
    · refine x_zf rfl rfl (decide_eq_false h15) ?_
      refine x_fg (Lq.n (Lq.n (Lq.n (Lq.n Lq.nil)))) ?_
      exact j_239_0_j51 hd hb hh hr kr
def J_239_0_j26 (B : Md) (x1 : Int32) (x2 : Int32) (x3 : Int32) : Option (Int32 × (Md)) :=
  J_239_0_j27 B x1 x2 x3 0
theorem j_239_0_j26 {d : Nat} (hd : 3 ≤ d) {scr : ASc} {res : ARe} {c n : Nat} {h : AHp} {b : Nat} (hb : b + 17 ≤ am_SB) (hh : b + 17 ≤ h.length) {B : Md} {x1 : Int32} {x2 : Int32} {x3 : Int32} {o : Int32 × (Md)} (hr : J_239_0_j26 B x1 x2 x3 = some o) (kr : res = (.inl (some (.int o.1)), hput h b (Md.cells b o.2), c, n)) : Ex d am_M239 scr (26, [some (.ref b), some (.int x1), some (.int x2), some (.int x3)], [.ref b], (hput h b (Md.cells b B)), c, n) res := by
  delta J_239_0_j26 at hr
  refine x_b 1 (S2 := (27, [some (.ref b), some (.int x1), some (.int x2), some (.int x3)], [.int 0, .ref b], (hput h b (Md.cells b B)), c, n)) rfl ?_
  refine x_fg (Lq.s (Lq.s (Lq.s (Lq.s Lq.nil)))) ?_
  exact j_239_0_j27 hd hb hh hr kr
/-- PebbleProofsModel.strategy(III)I -/
def F_239 (B : Md) (x1 : Int32) (x2 : Int32) (x3 : Int32) : Option (Int32 × (Md)) :=
  (some (B.w_thrown 0)).bind fun B1 =>
  (F_174 B1 x1).bind fun v4 =>
  if v4 = 0 then
    J_239_0_j26 B1 x1 x2 x3
  else
    (F_172 B1 x2).bind fun v23 =>
    if v23 = 0 then
      J_239_0_j26 B1 x1 x2 x3
    else
      J_239_0_j27 B1 x1 x2 x3 1
theorem f_239 {d : Nat} (hd : 3 ≤ d) {scr : ASc} {res : ARe} {c n : Nat} {h : AHp} {b : Nat} (hb : b + 17 ≤ am_SB) (hh : b + 17 ≤ h.length) {B : Md} {x1 : Int32} {x2 : Int32} {x3 : Int32} {o : Int32 × (Md)} (hr : F_239 B x1 x2 x3 = some o) (kr : res = (.inl (some (.int o.1)), hput h b (Md.cells b o.2), c, n)) : Ex d am_M239 scr (0, [some (.ref b), some (.int x1), some (.int x2), some (.int x3)], [], (hput h b (Md.cells b B)), c, n) res := by
  delta F_239 at hr
  refine x_ldan rfl rfl rfl (h_lt (i := 0) hb (by decide)) ?_
  refine x_b 1 (S2 := (2, [some (.ref b), some (.int x1), some (.int x2), some (.int x3)], [.int 0, .ref b], (hput h b (Md.cells b B)), c, n)) rfl ?_
  obtain ⟨B1, h2, hr⟩ := bd_some hr
  refine x_putf (H := (hput h b (Md.cells b B1))) rfl rfl (h_lt (i := 0) hb (by decide)) (hp_at (i := 0) hh rfl rfl) ⟨(show 0 < 28 by decide), rfl, rfl, nofun⟩ (hp_set (i := 0) hh rfl (by decide) (Md.s_thrown rfl h2)) ?_
  refine x_ldan rfl rfl rfl (h_lt (i := 0) hb (by decide)) ?_
  refine x_ldan rfl rfl rfl (h_lt (i := 0) hb (by decide)) ?_
  refine x_b 1 (S2 := (8, [some (.ref b), some (.int x1), some (.int x2), some (.int x3)], [.int x1, .ref b, .ref b], (hput h b (Md.cells b B1)), c, n)) rfl ?_
  obtain ⟨v4, h3, hr⟩ := bd_some hr
  refine x_c0 (m_174 (hp_rg hb hh rfl) h3) rfl rfl rfl rfl (am_recv_v (h_lt (i := 0) hb (by decide)) (hp_at (i := 0) hh rfl rfl) rfl) (by omega) ?_
  rcases ite_some hr with ⟨h5, hr⟩ | ⟨h5, hr⟩
  · refine x_zt rfl rfl (decide_eq_true h5) ?_
    refine x_fg (Lq.s (Lq.s (Lq.s (Lq.s Lq.nil)))) ?_
    exact j_239_0_j26 hd hb hh hr kr
  · refine x_zf rfl rfl (decide_eq_false h5) ?_
    refine x_ldan rfl rfl rfl (h_lt (i := 0) hb (by decide)) ?_
    refine x_b 1 (S2 := (16, [some (.ref b), some (.int x1), some (.int x2), some (.int x3)], [.int x2, .ref b, .ref b], (hput h b (Md.cells b B1)), c, n)) rfl ?_
    obtain ⟨v23, h22, hr⟩ := bd_some hr
    refine x_c0 (m_172 (hp_rg hb hh rfl) h22) rfl rfl rfl rfl (am_recv_v (h_lt (i := 0) hb (by decide)) (hp_at (i := 0) hh rfl rfl) rfl) (by omega) ?_
    rcases ite_some hr with ⟨h24, hr⟩ | ⟨h24, hr⟩
    · refine x_zt rfl rfl (decide_eq_true h24) ?_
      refine x_fg (Lq.s (Lq.s (Lq.s (Lq.s Lq.nil)))) ?_
      exact j_239_0_j26 hd hb hh hr kr
    · refine x_zf rfl rfl (decide_eq_false h24) ?_
      refine x_b 2 (S2 := (27, [some (.ref b), some (.int x1), some (.int x2), some (.int x3)], [.int 1, .ref b], (hput h b (Md.cells b B1)), c, n)) rfl ?_
      refine x_fg (Lq.s (Lq.s (Lq.s (Lq.s Lq.nil)))) ?_
      exact j_239_0_j27 hd hb hh hr kr
theorem m_239 {h : AHp} {b : Nat} (hb : b + 17 ≤ am_SB) (hh : b + 17 ≤ h.length) {B : Md} {x1 : Int32} {x2 : Int32} {x3 : Int32} {o : Int32 × (Md)} (hr : F_239 B x1 x2 x3 = some o) : Rn 4 239 [.ref b, .int x1, .int x2, .int x3] (hput h b (Md.cells b B)) (.inl (some (.int o.1)), hput h b (Md.cells b o.2), 0, 0) :=
  x_meth (M := am_M239) rfl (show 4 ≤ 4 by decide) (f_239 (Nat.le_refl _) hb hh hr rfl)
def J_240_0_j42 (B : Md) : Option (Int32) :=
  some 1
theorem j_240_0_j42 {d : Nat} (hd : 3 ≤ d) {scr : ASc} {res : ARe} {c n : Nat} {H : AHp} {b : Nat} {B : Md} (hR : Rg H b (Md.cells b B)) {o : Int32} (hr : J_240_0_j42 B = some o) (kr : res = (.inl (some (.int o)), H, c, n)) : Ex d am_M240 scr (42, [none, none, none, none, none], [], H, c, n) res := by
  delta J_240_0_j42 at hr
  refine x_b 1 (S2 := (43, [none, none, none, none, none], [.int 1], H, c, n)) rfl ?_
  cases hr
  rw [kr]
  exact x_ret rfl rfl (am_ret_z (by decide))
def J_240_0_j75 (B : Md) (t0 : Int32) : Option (Int32) :=
  if t0 = 0 ∨ t0 = 1 then some t0 else none
theorem j_240_0_j75 {d : Nat} (hd : 3 ≤ d) {scr : ASc} {res : ARe} {c n : Nat} {H : AHp} {b : Nat} {B : Md} {t0 : Int32} (hR : Rg H b (Md.cells b B)) {o : Int32} (hr : J_240_0_j75 B t0 = some o) (kr : res = (.inl (some (.int o)), H, c, n)) : Ex d am_M240 scr (75, [none, none, none, none, none], [.int t0], H, c, n) res := by
  delta J_240_0_j75 at hr
  obtain ⟨h14, hr⟩ := itn_some hr
  cases hr
  rw [kr]
  exact x_ret rfl rfl (am_ret_z h14)
def J_240_0_j74 (B : Md) : Option (Int32) :=
  J_240_0_j75 B 0
theorem j_240_0_j74 {d : Nat} (hd : 3 ≤ d) {scr : ASc} {res : ARe} {c n : Nat} {H : AHp} {b : Nat} {B : Md} (hR : Rg H b (Md.cells b B)) {o : Int32} (hr : J_240_0_j74 B = some o) (kr : res = (.inl (some (.int o)), H, c, n)) : Ex d am_M240 scr (74, [none, none, none, none, none], [], H, c, n) res := by
  delta J_240_0_j74 at hr
  refine x_b 1 (S2 := (75, [none, none, none, none, none], [.int 0], H, c, n)) rfl ?_
  refine x_fg (Lq.s (Lq.s (Lq.s (Lq.s (Lq.s Lq.nil))))) ?_
  exact j_240_0_j75 hd hR hr kr
/-- PebbleProofsModel.isWrongAt(II)Z -/
def F_240 (B : Md) (x1 : Int32) (x2 : Int32) : Option (Int32) :=
  (F_177 B x1 (1 + x2)).bind fun v2 =>
  (F_177 B x1 (7 + x2)).bind fun v4 =>
  if ¬ v2 = 0 then
    if v4 = (-1) then
      J_240_0_j42 B
    else
      (F_175 B x2 v4).bind fun v9 =>
      if ¬ v9 = 0 then
        (F_177 B x1 0).bind fun v12 =>
        if v4 = v12 then
          J_240_0_j74 B
        else
          (F_177 B x1 (1 + v4)).bind fun v16 =>
          if (2 * v2) ≤ v16 then
            J_240_0_j74 B
          else
            J_240_0_j75 B 1
      else
        J_240_0_j42 B
  else
    some 0
theorem f_240 {d : Nat} (hd : 3 ≤ d) {scr : ASc} {res : ARe} {c n : Nat} {H : AHp} {b : Nat} {B : Md} {x1 : Int32} {x2 : Int32} (hR : Rg H b (Md.cells b B)) {o : Int32} (hr : F_240 B x1 x2 = some o) (kr : res = (.inl (some (.int o)), H, c, n)) : Ex d am_M240 scr (0, [some (.ref b), some (.int x1), some (.int x2), none, none], [], H, c, n) res := by
  delta F_240 at hr
  refine x_ldan rfl rfl rfl (hR.lt (i := 0) (show 0 < 17 by decide)) ?_
  refine x_b 4 (S2 := (5, [some (.ref b), some (.int x1), some (.int x2), none, none], [.int (1 + x2), .int x1, .ref b], H, c, n)) rfl ?_
  obtain ⟨v2, h1, hr⟩ := bd_some hr
  refine x_c0 (m_177 hR h1) rfl rfl rfl rfl (am_recv_v (hR.lt (i := 0) (show 0 < 17 by decide)) (hR.at (i := 0) rfl) rfl) (by omega) ?_
  refine x_b 1 (S2 := (9, [some (.ref b), some (.int x1), some (.int x2), some (.int v2), none], [], H, c, n)) rfl ?_
  refine x_ldan rfl rfl rfl (hR.lt (i := 0) (show 0 < 17 by decide)) ?_
  refine x_b 4 (S2 := (15, [some (.ref b), some (.int x1), some (.int x2), some (.int v2), none], [.int (7 + x2), .int x1, .ref b], H, c, n)) rfl ?_
  obtain ⟨v4, h3, hr⟩ := bd_some hr
  refine x_c0 (m_177 hR h3) rfl rfl rfl rfl (am_recv_v (hR.lt (i := 0) (show 0 < 17 by decide)) (hR.at (i := 0) rfl) rfl) (by omega) ?_
  refine x_b 2 (S2 := (21, [some (.ref b), some (.int x1), some (.int x2), some (.int v2), some (.int v4)], [.int v2], H, c, n)) rfl ?_
  rcases ite_some hr with ⟨h5, hr⟩ | ⟨h5, hr⟩
  · refine x_zt rfl rfl (decide_eq_true h5) ?_
    refine x_b 2 (S2 := (29, [some (.ref b), some (.int x1), some (.int x2), some (.int v2), some (.int v4)], [.int (-1), .int v4], H, c, n)) rfl ?_
    rcases ite_some hr with ⟨h6, hr⟩ | ⟨h6, hr⟩
    · refine x_ct rfl rfl (decide_eq_true h6) ?_
      refine x_fg (Lq.n (Lq.n (Lq.n (Lq.n (Lq.n Lq.nil))))) ?_
      exact j_240_0_j42 hd hR hr kr
    · refine x_cf rfl rfl (decide_eq_false h6) ?_
      refine x_ldan rfl rfl rfl (hR.lt (i := 0) (show 0 < 17 by decide)) ?_
      refine x_b 2 (S2 := (36, [some (.ref b), some (.int x1), some (.int x2), some (.int v2), some (.int v4)], [.int v4, .int x2, .ref b], H, c, n)) rfl ?_
      obtain ⟨v9, h8, hr⟩ := bd_some hr
      refine x_c0 (m_175 hR h8) rfl rfl rfl rfl (am_recv_v (hR.lt (i := 0) (show 0 < 17 by decide)) (hR.at (i := 0) rfl) rfl) (by omega) ?_
      rcases ite_some hr with ⟨h10, hr⟩ | ⟨h10, hr⟩
      · refine x_zt rfl rfl (decide_eq_true h10) ?_
        refine x_b 1 (S2 := (46, [some (.ref b), some (.int x1), some (.int x2), some (.int v2), some (.int v4)], [.int v4], H, c, n)) rfl ?_
        refine x_ldan rfl rfl rfl (hR.lt (i := 0) (show 0 < 17 by decide)) ?_
        refine x_b 2 (S2 := (49, [some (.ref b), some (.int x1), some (.int x2), some (.int v2), some (.int v4)], [.int 0, .int x1, .ref b, .int v4], H, c, n)) rfl ?_
        obtain ⟨v12, h11, hr⟩ := bd_some hr
        refine x_c0 (m_177 hR h11) rfl rfl rfl rfl (am_recv_v (hR.lt (i := 0) (show 0 < 17 by decide)) (hR.at (i := 0) rfl) rfl) (by omega) ?_
        rcases ite_some hr with ⟨h13, hr⟩ | ⟨h13, hr⟩
        · refine x_ct rfl rfl (decide_eq_true h13) ?_
          refine x_fg (Lq.n (Lq.n (Lq.n (Lq.n (Lq.n Lq.nil))))) ?_
          exact j_240_0_j74 hd hR hr kr
        · refine x_cf rfl rfl (decide_eq_false h13) ?_
          refine x_ldan rfl rfl rfl (hR.lt (i := 0) (show 0 < 17 by decide)) ?_
          refine x_b 4 (S2 := (61, [some (.ref b), some (.int x1), some (.int x2), some (.int v2), some (.int v4)], [.int (1 + v4), .int x1, .ref b], H, c, n)) rfl ?_
          obtain ⟨v16, h15, hr⟩ := bd_some hr
          refine x_c0 (m_177 hR h15) rfl rfl rfl rfl (am_recv_v (hR.lt (i := 0) (show 0 < 17 by decide)) (hR.at (i := 0) rfl) rfl) (by omega) ?_
          refine x_b 3 (S2 := (67, [some (.ref b), some (.int x1), some (.int x2), some (.int v2), some (.int v4)], [.int (2 * v2), .int v16], H, c, n)) rfl ?_
          rcases ite_some hr with ⟨h17, hr⟩ | ⟨h17, hr⟩
          · refine x_ct rfl rfl (decide_eq_true h17) ?_
            refine x_fg (Lq.n (Lq.n (Lq.n (Lq.n (Lq.n Lq.nil))))) ?_
            exact j_240_0_j74 hd hR hr kr
          · refine x_cf rfl rfl (decide_eq_false h17) ?_
            refine x_b 2 (S2 := (75, [some (.ref b), some (.int x1), some (.int x2), some (.int v2), some (.int v4)], [.int 1], H, c, n)) rfl ?_
            refine x_fg (Lq.n (Lq.n (Lq.n (Lq.n (Lq.n Lq.nil))))) ?_
            exact j_240_0_j75 hd hR hr kr
      · refine x_zf rfl rfl (decide_eq_false h10) ?_
        refine x_fg (Lq.n (Lq.n (Lq.n (Lq.n (Lq.n Lq.nil))))) ?_
        exact j_240_0_j42 hd hR hr kr
  · refine x_zf rfl rfl (decide_eq_false h5) ?_
    refine x_b 1 (S2 := (25, [some (.ref b), some (.int x1), some (.int x2), some (.int v2), some (.int v4)], [.int 0], H, c, n)) rfl ?_
    cases hr
    rw [kr]
    exact x_ret rfl rfl (am_ret_z (by decide))
theorem m_240 {H : AHp} {b : Nat} {B : Md} {x1 : Int32} {x2 : Int32} (hR : Rg H b (Md.cells b B)) {o : Int32} (hr : F_240 B x1 x2 = some o) : Rn 4 240 [.ref b, .int x1, .int x2] H (.inl (some (.int o)), H, 0, 0) :=
  x_meth (M := am_M240) rfl (show 3 ≤ 5 by decide) (f_240 (Nat.le_refl _) hR hr rfl)
abbrev P_241_2 (H : AHp) (b : Nat) (c n : Nat) (B : Md) (x1 : Int32) (s : Int32) : ASt := (2, [some (.ref b), some (.int x1), some (.int s)], [], H, c, n)
abbrev PX_241_2 (H : AHp) (b : Nat) (c n : Nat) (B : Md) (x1 : Int32) (s : Unit) : ASt := (29, [none, none, none], [], H, c, n)
def G_241_2 (B : Md) (x1 : Int32) (s : Int32) : Option ((Int32) ⊕ (Unit) ⊕ (Int32)) := 
  match s with
  | x2 =>
    (ix 0 93).bind fun i1 =>
    if (B.now i1) ≤ x2 then
      some (.inr (.inl ()))
    else
      (F_240 B x1 x2).bind fun v5 =>
      if v5 = 0 then
        some (.inl (x2 + 1))
      else
        some (.inr (.inr x2))
theorem g_241_2 {d : Nat} (hd : 4 ≤ d) {scr : ASc} {res : ARe} {c n : Nat} {H : AHp} {b : Nat} {B : Md} {x1 : Int32} (hR : Rg H b (Md.cells b B)) {s : Int32} {o : (Int32) ⊕ (Unit) ⊕ (Int32)} (hr : G_241_2 B x1 s = some o) (ka : ∀ s, o = .inl s → Ex d am_M241 scr (P_241_2 H b c n B x1 s) res) (kx : ∀ s, o = .inr (.inl s) → Ex d am_M241 scr (PX_241_2 H b c n B x1 s) res) (kr : ∀ r, o = .inr (.inr r) → res = (.inl (some (.int r)), H, c, n)) : Ex d am_M241 scr (P_241_2 H b c n B x1 s) res := by
  delta G_241_2 at hr
  show Ex d am_M241 scr (2, [some (.ref b), some (.int x1), some (.int s)], [], H, c, n) res
  refine x_b 1 (S2 := (3, [some (.ref b), some (.int x1), some (.int s)], [.int s], H, c, n)) rfl ?_
  refine x_ldan rfl rfl rfl (hR.lt (i := 0) (show 0 < 17 by decide)) ?_
  refine x_getf rfl rfl (hR.lt (i := 0) (show 0 < 17 by decide)) (hR.at (i := 0) rfl) rfl ?_
  refine x_b 1 (S2 := (8, [some (.ref b), some (.int x1), some (.int s)], [.int 0, .ref (b + 3), .int s], H, c, n)) rfl ?_
  obtain ⟨i1, h2, hr⟩ := bd_some hr
  refine x_iald rfl rfl (hR.lt (i := 3) (show 3 < 17 by decide)) (hR.at (i := 3) rfl) h2 ?_
  rcases ite_some hr with ⟨h3, hr⟩ | ⟨h3, hr⟩
  · refine x_ct rfl rfl (decide_eq_true h3) ?_
    refine x_fg (Lq.n (Lq.n (Lq.n Lq.nil))) ?_
    exact kx () (Option.some.inj hr).symm
  · refine x_cf rfl rfl (decide_eq_false h3) ?_
    refine x_ldan rfl rfl rfl (hR.lt (i := 0) (show 0 < 17 by decide)) ?_
    refine x_b 2 (S2 := (15, [some (.ref b), some (.int x1), some (.int s)], [.int s, .int x1, .ref b], H, c, n)) rfl ?_
    obtain ⟨v5, h4, hr⟩ := bd_some hr
    refine x_c0 (m_240 hR h4) rfl rfl rfl rfl (am_recv_v (hR.lt (i := 0) (show 0 < 17 by decide)) (hR.at (i := 0) rfl) rfl) (by omega) ?_
    rcases ite_some hr with ⟨h6, hr⟩ | ⟨h6, hr⟩
    · refine x_zt rfl rfl (decide_eq_true h6) ?_
      refine x_b 2 (S2 := (2, [some (.ref b), some (.int x1), some (.int (s + 1))], [], H, c, n)) rfl ?_
      refine x_fg (Lq.s (Lq.s (Lq.s Lq.nil))) ?_
      exact ka (s + 1) (Option.some.inj hr).symm
    · refine x_zf rfl rfl (decide_eq_false h6) ?_
      refine x_b 1 (S2 := (22, [some (.ref b), some (.int x1), some (.int s)], [.int s], H, c, n)) rfl ?_
      rw [kr _ (Option.some.inj hr).symm]
      exact x_ret rfl rfl am_ret_i
/-- PebbleProofsModel.wrongOf(I)I -/
def F_241 (B : Md) (x1 : Int32) : Option (Int32) :=
  (lw (G_241_2 B x1) 200000 0).bind fun r =>
    match r with
    | .inr r9 => some r9
    | .inl _ =>
      some (-1)
theorem f_241 {d : Nat} (hd : 4 ≤ d) {scr : ASc} {res : ARe} {c n : Nat} {H : AHp} {b : Nat} {B : Md} {x1 : Int32} (hR : Rg H b (Md.cells b B)) {o : Int32} (hr : F_241 B x1 = some o) (kr : res = (.inl (some (.int o)), H, c, n)) : Ex d am_M241 scr (0, [some (.ref b), some (.int x1), none], [], H, c, n) res := by
  delta F_241 at hr
  refine x_b 2 (S2 := (2, [some (.ref b), some (.int x1), some (.int 0)], [], H, c, n)) rfl ?_
  refine x_fg (Lq.s (Lq.s (Lq.s Lq.nil))) ?_
  obtain ⟨o8, h7, hr⟩ := bd_some hr
  refine x_lw (P := P_241_2 H b c n B x1) (Q := fun x => match x with | .inl e => Ex d am_M241 scr (PX_241_2 H b c n B x1 e) res | .inr r => res = (.inl (some (.int r)), H, c, n)) (fun s o h1 ka kx => g_241_2 hd hR h1 ka (fun e he => kx (.inl e) he) (fun r he => kx (.inr r) he)) _ 0 _ h7 ?_
  rcases o8 with e | r9
  · show Ex d am_M241 scr (29, [none, none, none], [], H, c, n) res
    refine x_b 1 (S2 := (30, [none, none, none], [.int (-1)], H, c, n)) rfl ?_
    cases hr
    rw [kr]
    exact x_ret rfl rfl am_ret_i
  · cases hr; exact kr
theorem m_241 {H : AHp} {b : Nat} {B : Md} {x1 : Int32} (hR : Rg H b (Md.cells b B)) {o : Int32} (hr : F_241 B x1 = some o) : Rn 5 241 [.ref b, .int x1] H (.inl (some (.int o)), H, 0, 0) :=
  x_meth (M := am_M241) rfl (show 2 ≤ 3 by decide) (f_241 (Nat.le_refl _) hR hr rfl)
def J_242_0_j27 (B : Md) (t0 : Int32) : Option (Int32 × (Md)) :=
  some (t0, B)
theorem j_242_0_j27 {d : Nat} (hd : 5 ≤ d) {scr : ASc} {res : ARe} {c n : Nat} {h : AHp} {b : Nat} (hb : b + 17 ≤ am_SB) (hh : b + 17 ≤ h.length) {B : Md} {t0 : Int32} {o : Int32 × (Md)} (hr : J_242_0_j27 B t0 = some o) (kr : res = (.inl (some (.int o.1)), hput h b (Md.cells b o.2), c, n)) : Ex d am_M242 scr (27, [none, none], [.int t0], (hput h b (Md.cells b B)), c, n) res := by
  delta J_242_0_j27 at hr
  cases hr
  rw [kr]
  exact x_ret rfl rfl am_ret_i
/-- PebbleProofsModel.wrong(I)I -/
def F_242 (B : Md) (x1 : Int32) : Option (Int32 × (Md)) :=
  (some (B.w_thrown 0)).bind fun B1 =>
  (F_174 B1 x1).bind fun v4 =>
  (F_135 B1 v4 1).bind fun (v6, B7) =>
  if v6 = 0 then
    (F_241 B7 x1).bind fun v10 =>
    J_242_0_j27 B7 v10
  else
    J_242_0_j27 B7 0
theorem f_242 {d : Nat} (hd : 5 ≤ d) {scr : ASc} {res : ARe} {c n : Nat} {h : AHp} {b : Nat} (hb : b + 17 ≤ am_SB) (hh : b + 17 ≤ h.length) {B : Md} {x1 : Int32} {o : Int32 × (Md)} (hr : F_242 B x1 = some o) (kr : res = (.inl (some (.int o.1)), hput h b (Md.cells b o.2), c, n)) : Ex d am_M242 scr (0, [some (.ref b), some (.int x1)], [], (hput h b (Md.cells b B)), c, n) res := by
  delta F_242 at hr
  refine x_ldan rfl rfl rfl (h_lt (i := 0) hb (by decide)) ?_
  refine x_b 1 (S2 := (2, [some (.ref b), some (.int x1)], [.int 0, .ref b], (hput h b (Md.cells b B)), c, n)) rfl ?_
  obtain ⟨B1, h2, hr⟩ := bd_some hr
  refine x_putf (H := (hput h b (Md.cells b B1))) rfl rfl (h_lt (i := 0) hb (by decide)) (hp_at (i := 0) hh rfl rfl) ⟨(show 0 < 28 by decide), rfl, rfl, nofun⟩ (hp_set (i := 0) hh rfl (by decide) (Md.s_thrown rfl h2)) ?_
  refine x_ldan rfl rfl rfl (h_lt (i := 0) hb (by decide)) ?_
  refine x_ldan rfl rfl rfl (h_lt (i := 0) hb (by decide)) ?_
  refine x_b 1 (S2 := (8, [some (.ref b), some (.int x1)], [.int x1, .ref b, .ref b], (hput h b (Md.cells b B1)), c, n)) rfl ?_
  obtain ⟨v4, h3, hr⟩ := bd_some hr
  refine x_c0 (m_174 (hp_rg hb hh rfl) h3) rfl rfl rfl rfl (am_recv_v (h_lt (i := 0) hb (by decide)) (hp_at (i := 0) hh rfl rfl) rfl) (by omega) ?_
  refine x_b 1 (S2 := (12, [some (.ref b), some (.int x1)], [.int 1, .int v4, .ref b], (hput h b (Md.cells b B1)), c, n)) rfl ?_
  obtain ⟨⟨v6, B7⟩, h5, hr⟩ := bd_some hr
  refine x_c0 (m_135 hb hh h5) rfl rfl rfl rfl (am_recv_v (h_lt (i := 0) hb (by decide)) (hp_at (i := 0) hh rfl rfl) rfl) (by omega) ?_
  rcases ite_some hr with ⟨h8, hr⟩ | ⟨h8, hr⟩
  · refine x_zt rfl rfl (decide_eq_true h8) ?_
    refine x_ldan rfl rfl rfl (h_lt (i := 0) hb (by decide)) ?_
    refine x_b 1 (S2 := (24, [some (.ref b), some (.int x1)], [.int x1, .ref b], (hput h b (Md.cells b B7)), c, n)) rfl ?_
    obtain ⟨v10, h9, hr⟩ := bd_some hr
    refine x_c0 (m_241 (hp_rg hb hh rfl) h9) rfl rfl rfl rfl (am_recv_v (h_lt (i := 0) hb (by decide)) (hp_at (i := 0) hh rfl rfl) rfl) (by omega) ?_
    refine x_fg (Lq.n (Lq.n Lq.nil)) ?_
    exact j_242_0_j27 hd hb hh hr kr
  · refine x_zf rfl rfl (decide_eq_false h8) ?_
    refine x_b 2 (S2 := (27, [some (.ref b), some (.int x1)], [.int 0], (hput h b (Md.cells b B7)), c, n)) rfl ?_
    refine x_fg (Lq.n (Lq.n Lq.nil)) ?_
    exact j_242_0_j27 hd hb hh hr kr
theorem m_242 {h : AHp} {b : Nat} (hb : b + 17 ≤ am_SB) (hh : b + 17 ≤ h.length) {B : Md} {x1 : Int32} {o : Int32 × (Md)} (hr : F_242 B x1 = some o) : Rn 6 242 [.ref b, .int x1] (hput h b (Md.cells b B)) (.inl (some (.int o.1)), hput h b (Md.cells b o.2), 0, 0) :=
  x_meth (M := am_M242) rfl (show 2 ≤ 2 by decide) (f_242 (Nat.le_refl _) hb hh hr rfl)
abbrev P_243_5 (H : AHp) (b : Nat) (c n : Nat) (B : Md) (x1 : Int32) (x2 : Int32) (s : Int32 × Int32) : ASt := (5, [some (.ref b), some (.int x1), some (.int x2), some (.int s.1), some (.int s.2)], [], H, c, n)
abbrev PX_243_5 (H : AHp) (b : Nat) (c n : Nat) (B : Md) (x1 : Int32) (x2 : Int32) (s : Int32) : ASt := (49, [none, none, none, some (.int s), none], [], H, c, n)
def J_243_5_j40 (B : Md) (x1 : Int32) (x2 : Int32) (x4 : Int32) (t0 : Int32) (t1 : Int32) (t2 : Int32) : Option ((Int32 × Int32) ⊕ (Int32)) :=
  some (.inl ((t2 + (t1 * t0)), (x4 + 1)))
theorem j_243_5_j40 {d : Nat} (hd : 2 ≤ d) {scr : ASc} {res : ARe} {c n : Nat} {H : AHp} {b : Nat} {B : Md} {x1 : Int32} {x2 : Int32} {x4 : Int32} {t0 : Int32} {t1 : Int32} {t2 : Int32} (hR : Rg H b (Md.cells b B)) {o : (Int32 × Int32) ⊕ (Int32)} (hr : J_243_5_j40 B x1 x2 x4 t0 t1 t2 = some o) (ka : ∀ s, o = .inl s → Ex d am_M243 scr (P_243_5 H b c n B x1 x2 s) res) (kx : ∀ s, o = .inr s → Ex d am_M243 scr (PX_243_5 H b c n B x1 x2 s) res) : Ex d am_M243 scr (40, [some (.ref b), some (.int x1), some (.int x2), none, some (.int x4)], [.int t0, .int t1, .int t2], H, c, n) res := by
  delta J_243_5_j40 at hr
  refine x_b 5 (S2 := (5, [some (.ref b), some (.int x1), some (.int x2), some (.int (t2 + (t1 * t0))), some (.int (x4 + 1))], [], H, c, n)) rfl ?_
  refine x_fg (Lq.s (Lq.s (Lq.s (Lq.s (Lq.s Lq.nil))))) ?_
  exact ka ((t2 + (t1 * t0)), (x4 + 1)) (Option.some.inj hr).symm
def G_243_5 (B : Md) (x1 : Int32) (x2 : Int32) (s : Int32 × Int32) : Option ((Int32 × Int32) ⊕ (Int32)) := 
  match s with
  | (x3, x4) =>
    (ix 0 93).bind fun i1 =>
    if (B.now i1) ≤ x4 then
      some (.inr x3)
    else
      (F_177 B x1 (1 + x4)).bind fun v5 =>
      if x2 = 0 then
        J_243_5_j40 B x1 x2 x4 1 v5 x3
      else
        (F_176 B x4).bind fun v8 =>
        J_243_5_j40 B x1 x2 x4 v8 v5 x3
theorem g_243_5 {d : Nat} (hd : 2 ≤ d) {scr : ASc} {res : ARe} {c n : Nat} {H : AHp} {b : Nat} {B : Md} {x1 : Int32} {x2 : Int32} (hR : Rg H b (Md.cells b B)) {s : Int32 × Int32} {o : (Int32 × Int32) ⊕ (Int32)} (hr : G_243_5 B x1 x2 s = some o) (ka : ∀ s, o = .inl s → Ex d am_M243 scr (P_243_5 H b c n B x1 x2 s) res) (kx : ∀ s, o = .inr s → Ex d am_M243 scr (PX_243_5 H b c n B x1 x2 s) res) : Ex d am_M243 scr (P_243_5 H b c n B x1 x2 s) res := by
  obtain ⟨x3, x4⟩ := s
  delta G_243_5 at hr
  show Ex d am_M243 scr (5, [some (.ref b), some (.int x1), some (.int x2), some (.int x3), some (.int x4)], [], H, c, n) res
  refine x_b 1 (S2 := (7, [some (.ref b), some (.int x1), some (.int x2), some (.int x3), some (.int x4)], [.int x4], H, c, n)) rfl ?_
  refine x_ldan rfl rfl rfl (hR.lt (i := 0) (show 0 < 17 by decide)) ?_
  refine x_getf rfl rfl (hR.lt (i := 0) (show 0 < 17 by decide)) (hR.at (i := 0) rfl) rfl ?_
  refine x_b 1 (S2 := (12, [some (.ref b), some (.int x1), some (.int x2), some (.int x3), some (.int x4)], [.int 0, .ref (b + 3), .int x4], H, c, n)) rfl ?_
  obtain ⟨i1, h2, hr⟩ := bd_some hr
  refine x_iald rfl rfl (hR.lt (i := 3) (show 3 < 17 by decide)) (hR.at (i := 3) rfl) h2 ?_
  rcases ite_some hr with ⟨h3, hr⟩ | ⟨h3, hr⟩
  · refine x_ct rfl rfl (decide_eq_true h3) ?_
    refine x_fg (Lq.n (Lq.n (Lq.n (Lq.s (Lq.n Lq.nil))))) ?_
    exact kx x3 (Option.some.inj hr).symm
  · refine x_cf rfl rfl (decide_eq_false h3) ?_
    refine x_b 1 (S2 := (17, [some (.ref b), some (.int x1), some (.int x2), some (.int x3), some (.int x4)], [.int x3], H, c, n)) rfl ?_
    refine x_ldan rfl rfl rfl (hR.lt (i := 0) (show 0 < 17 by decide)) ?_
    refine x_b 4 (S2 := (23, [some (.ref b), some (.int x1), some (.int x2), some (.int x3), some (.int x4)], [.int (1 + x4), .int x1, .ref b, .int x3], H, c, n)) rfl ?_
    obtain ⟨v5, h4, hr⟩ := bd_some hr
    refine x_c0 (m_177 hR h4) rfl rfl rfl rfl (am_recv_v (hR.lt (i := 0) (show 0 < 17 by decide)) (hR.at (i := 0) rfl) rfl) (by omega) ?_
    refine x_b 1 (S2 := (27, [some (.ref b), some (.int x1), some (.int x2), some (.int x3), some (.int x4)], [.int x2, .int v5, .int x3], H, c, n)) rfl ?_
    rcases ite_some hr with ⟨h6, hr⟩ | ⟨h6, hr⟩
    · refine x_zt rfl rfl (decide_eq_true h6) ?_
      refine x_b 1 (S2 := (40, [some (.ref b), some (.int x1), some (.int x2), some (.int x3), some (.int x4)], [.int 1, .int v5, .int x3], H, c, n)) rfl ?_
      refine x_fg (Lq.s (Lq.s (Lq.s (Lq.n (Lq.s Lq.nil))))) ?_
      exact j_243_5_j40 hd hR hr ka kx
    · refine x_zf rfl rfl (decide_eq_false h6) ?_
      refine x_ldan rfl rfl rfl (hR.lt (i := 0) (show 0 < 17 by decide)) ?_
      refine x_b 1 (S2 := (33, [some (.ref b), some (.int x1), some (.int x2), some (.int x3), some (.int x4)], [.int x4, .ref b, .int v5, .int x3], H, c, n)) rfl ?_
      obtain ⟨v8, h7, hr⟩ := bd_some hr
      refine x_c0 (m_176 hR h7) rfl rfl rfl rfl (am_recv_v (hR.lt (i := 0) (show 0 < 17 by decide)) (hR.at (i := 0) rfl) rfl) (by omega) ?_
      refine x_b 1 (S2 := (40, [some (.ref b), some (.int x1), some (.int x2), some (.int x3), some (.int x4)], [.int v8, .int v5, .int x3], H, c, n)) rfl ?_
      refine x_fg (Lq.s (Lq.s (Lq.s (Lq.n (Lq.s Lq.nil))))) ?_
      exact j_243_5_j40 hd hR hr ka kx
/-- PebbleProofsModel.weightOf(IZ)I -/
def F_243 (B : Md) (x1 : Int32) (x2 : Int32) : Option (Int32) :=
  (lw (G_243_5 B x1 x2) 200000 (0, 0)).bind fun v10 =>
  some v10
theorem f_243 {d : Nat} (hd : 2 ≤ d) {scr : ASc} {res : ARe} {c n : Nat} {H : AHp} {b : Nat} {B : Md} {x1 : Int32} {x2 : Int32} (hR : Rg H b (Md.cells b B)) {o : Int32} (hr : F_243 B x1 x2 = some o) (kr : res = (.inl (some (.int o)), H, c, n)) : Ex d am_M243 scr (0, [some (.ref b), some (.int x1), some (.int x2), none, none], [], H, c, n) res := by
  delta F_243 at hr
  refine x_b 4 (S2 := (5, [some (.ref b), some (.int x1), some (.int x2), some (.int 0), some (.int 0)], [], H, c, n)) rfl ?_
  refine x_fg (Lq.s (Lq.s (Lq.s (Lq.s (Lq.s Lq.nil))))) ?_
  obtain ⟨v10, h9, hr⟩ := bd_some hr
  refine x_lw (P := P_243_5 H b c n B x1 x2) (Q := fun x => Ex d am_M243 scr (PX_243_5 H b c n B x1 x2 x) res) (fun s o h1 ka kx => g_243_5 hd hR h1 ka kx) _ (0, 0) _ h9 ?_
  show Ex d am_M243 scr (49, [none, none, none, some (.int v10), none], [], H, c, n) res
  refine x_b 1 (S2 := (50, [none, none, none, some (.int v10), none], [.int v10], H, c, n)) rfl ?_
  cases hr
  rw [kr]
  exact x_ret rfl rfl am_ret_i
theorem m_243 {H : AHp} {b : Nat} {B : Md} {x1 : Int32} {x2 : Int32} (hR : Rg H b (Md.cells b B)) {o : Int32} (hr : F_243 B x1 x2 = some o) : Rn 3 243 [.ref b, .int x1, .int x2] H (.inl (some (.int o)), H, 0, 0) :=
  x_meth (M := am_M243) rfl (show 3 ≤ 5 by decide) (f_243 (Nat.le_refl _) hR hr rfl)
def J_244_0_j28 (B : Md) (t0 : Int32) : Option (Int32 × (Md)) :=
  some (t0, B)
theorem j_244_0_j28 {d : Nat} (hd : 3 ≤ d) {scr : ASc} {res : ARe} {c n : Nat} {h : AHp} {b : Nat} (hb : b + 17 ≤ am_SB) (hh : b + 17 ≤ h.length) {B : Md} {t0 : Int32} {o : Int32 × (Md)} (hr : J_244_0_j28 B t0 = some o) (kr : res = (.inl (some (.int o.1)), hput h b (Md.cells b o.2), c, n)) : Ex d am_M244 scr (28, [none, none, none], [.int t0], (hput h b (Md.cells b B)), c, n) res := by
  delta J_244_0_j28 at hr
  cases hr
  rw [kr]
  exact x_ret rfl rfl am_ret_i
/-- PebbleProofsModel.weight(IZ)I -/
def F_244 (B : Md) (x1 : Int32) (x2 : Int32) : Option (Int32 × (Md)) :=
  (some (B.w_thrown 0)).bind fun B1 =>
  (F_174 B1 x1).bind fun v4 =>
  (F_135 B1 v4 1).bind fun (v6, B7) =>
  if v6 = 0 then
    (F_243 B7 x1 x2).bind fun v10 =>
    J_244_0_j28 B7 v10
  else
    J_244_0_j28 B7 0
theorem f_244 {d : Nat} (hd : 3 ≤ d) {scr : ASc} {res : ARe} {c n : Nat} {h : AHp} {b : Nat} (hb : b + 17 ≤ am_SB) (hh : b + 17 ≤ h.length) {B : Md} {x1 : Int32} {x2 : Int32} {o : Int32 × (Md)} (hr : F_244 B x1 x2 = some o) (kr : res = (.inl (some (.int o.1)), hput h b (Md.cells b o.2), c, n)) : Ex d am_M244 scr (0, [some (.ref b), some (.int x1), some (.int x2)], [], (hput h b (Md.cells b B)), c, n) res := by
  delta F_244 at hr
  refine x_ldan rfl rfl rfl (h_lt (i := 0) hb (by decide)) ?_
  refine x_b 1 (S2 := (2, [some (.ref b), some (.int x1), some (.int x2)], [.int 0, .ref b], (hput h b (Md.cells b B)), c, n)) rfl ?_
  obtain ⟨B1, h2, hr⟩ := bd_some hr
  refine x_putf (H := (hput h b (Md.cells b B1))) rfl rfl (h_lt (i := 0) hb (by decide)) (hp_at (i := 0) hh rfl rfl) ⟨(show 0 < 28 by decide), rfl, rfl, nofun⟩ (hp_set (i := 0) hh rfl (by decide) (Md.s_thrown rfl h2)) ?_
  refine x_ldan rfl rfl rfl (h_lt (i := 0) hb (by decide)) ?_
  refine x_ldan rfl rfl rfl (h_lt (i := 0) hb (by decide)) ?_
  refine x_b 1 (S2 := (8, [some (.ref b), some (.int x1), some (.int x2)], [.int x1, .ref b, .ref b], (hput h b (Md.cells b B1)), c, n)) rfl ?_
  obtain ⟨v4, h3, hr⟩ := bd_some hr
  refine x_c0 (m_174 (hp_rg hb hh rfl) h3) rfl rfl rfl rfl (am_recv_v (h_lt (i := 0) hb (by decide)) (hp_at (i := 0) hh rfl rfl) rfl) (by omega) ?_
  refine x_b 1 (S2 := (12, [some (.ref b), some (.int x1), some (.int x2)], [.int 1, .int v4, .ref b], (hput h b (Md.cells b B1)), c, n)) rfl ?_
  obtain ⟨⟨v6, B7⟩, h5, hr⟩ := bd_some hr
  refine x_c0 (m_135 hb hh h5) rfl rfl rfl rfl (am_recv_v (h_lt (i := 0) hb (by decide)) (hp_at (i := 0) hh rfl rfl) rfl) (by omega) ?_
  rcases ite_some hr with ⟨h8, hr⟩ | ⟨h8, hr⟩
  · refine x_zt rfl rfl (decide_eq_true h8) ?_
    refine x_ldan rfl rfl rfl (h_lt (i := 0) hb (by decide)) ?_
    refine x_b 2 (S2 := (25, [some (.ref b), some (.int x1), some (.int x2)], [.int x2, .int x1, .ref b], (hput h b (Md.cells b B7)), c, n)) rfl ?_
    obtain ⟨v10, h9, hr⟩ := bd_some hr
    refine x_c0 (m_243 (hp_rg hb hh rfl) h9) rfl rfl rfl rfl (am_recv_v (h_lt (i := 0) hb (by decide)) (hp_at (i := 0) hh rfl rfl) rfl) (by omega) ?_
    refine x_fg (Lq.n (Lq.n (Lq.n Lq.nil))) ?_
    exact j_244_0_j28 hd hb hh hr kr
  · refine x_zf rfl rfl (decide_eq_false h8) ?_
    refine x_b 2 (S2 := (28, [some (.ref b), some (.int x1), some (.int x2)], [.int 0], (hput h b (Md.cells b B7)), c, n)) rfl ?_
    refine x_fg (Lq.n (Lq.n (Lq.n Lq.nil))) ?_
    exact j_244_0_j28 hd hb hh hr kr
theorem m_244 {h : AHp} {b : Nat} (hb : b + 17 ≤ am_SB) (hh : b + 17 ≤ h.length) {B : Md} {x1 : Int32} {x2 : Int32} {o : Int32 × (Md)} (hr : F_244 B x1 x2 = some o) : Rn 4 244 [.ref b, .int x1, .int x2] (hput h b (Md.cells b B)) (.inl (some (.int o.1)), hput h b (Md.cells b o.2), 0, 0) :=
  x_meth (M := am_M244) rfl (show 3 ≤ 3 by decide) (f_244 (Nat.le_refl _) hb hh hr rfl)
def J_245_0_j49 (B : Md) (t0 : Int32) : Option (Int32 × (Md)) :=
  if t0 = 0 ∨ t0 = 1 then some (t0, B) else none
theorem j_245_0_j49 {d : Nat} (hd : 5 ≤ d) {scr : ASc} {res : ARe} {c n : Nat} {h : AHp} {b : Nat} (hb : b + 17 ≤ am_SB) (hh : b + 17 ≤ h.length) {B : Md} {t0 : Int32} {o : Int32 × (Md)} (hr : J_245_0_j49 B t0 = some o) (kr : res = (.inl (some (.int o.1)), hput h b (Md.cells b o.2), c, n)) : Ex d am_M245 scr (49, [none, none], [.int t0], (hput h b (Md.cells b B)), c, n) res := by
  delta J_245_0_j49 at hr
  obtain ⟨h12, hr⟩ := itn_some hr
  cases hr
  rw [kr]
  exact x_ret rfl rfl (am_ret_z h12)
def J_245_0_j48 (B : Md) : Option (Int32 × (Md)) :=
  J_245_0_j49 B 0
theorem j_245_0_j48 {d : Nat} (hd : 5 ≤ d) {scr : ASc} {res : ARe} {c n : Nat} {h : AHp} {b : Nat} (hb : b + 17 ≤ am_SB) (hh : b + 17 ≤ h.length) {B : Md} {o : Int32 × (Md)} (hr : J_245_0_j48 B = some o) (kr : res = (.inl (some (.int o.1)), hput h b (Md.cells b o.2), c, n)) : Ex d am_M245 scr (48, [none, none], [], (hput h b (Md.cells b B)), c, n) res := by
  delta J_245_0_j48 at hr
  refine x_b 1 (S2 := (49, [none, none], [.int 0], (hput h b (Md.cells b B)), c, n)) rfl ?_
  refine x_fg (Lq.s (Lq.s Lq.nil)) ?_
  exact j_245_0_j49 hd hb hh hr kr
/-- PebbleProofsModel.proves(I)Z -/
def F_245 (B : Md) (x1 : Int32) : Option (Int32 × (Md)) :=
  (some (B.w_thrown 0)).bind fun B1 =>
  (F_174 B1 x1).bind fun v4 =>
  (F_135 B1 v4 1).bind fun (v6, B7) =>
  if v6 = 0 then
    (F_241 B7 x1).bind fun v10 =>
    if ¬ v10 = (-1) then
      J_245_0_j48 B7
    else
      (F_243 B7 x1 1).bind fun v14 =>
      (F_243 B7 x1 0).bind fun v16 =>
      if v14 ≤ v16 then
        J_245_0_j48 B7
      else
        J_245_0_j49 B7 1
  else
    some (0, B7)
theorem f_245 {d : Nat} (hd : 5 ≤ d) {scr : ASc} {res : ARe} {c n : Nat} {h : AHp} {b : Nat} (hb : b + 17 ≤ am_SB) (hh : b + 17 ≤ h.length) {B : Md} {x1 : Int32} {o : Int32 × (Md)} (hr : F_245 B x1 = some o) (kr : res = (.inl (some (.int o.1)), hput h b (Md.cells b o.2), c, n)) : Ex d am_M245 scr (0, [some (.ref b), some (.int x1)], [], (hput h b (Md.cells b B)), c, n) res := by
  delta F_245 at hr
  refine x_ldan rfl rfl rfl (h_lt (i := 0) hb (by decide)) ?_
  refine x_b 1 (S2 := (2, [some (.ref b), some (.int x1)], [.int 0, .ref b], (hput h b (Md.cells b B)), c, n)) rfl ?_
  obtain ⟨B1, h2, hr⟩ := bd_some hr
  refine x_putf (H := (hput h b (Md.cells b B1))) rfl rfl (h_lt (i := 0) hb (by decide)) (hp_at (i := 0) hh rfl rfl) ⟨(show 0 < 28 by decide), rfl, rfl, nofun⟩ (hp_set (i := 0) hh rfl (by decide) (Md.s_thrown rfl h2)) ?_
  refine x_ldan rfl rfl rfl (h_lt (i := 0) hb (by decide)) ?_
  refine x_ldan rfl rfl rfl (h_lt (i := 0) hb (by decide)) ?_
  refine x_b 1 (S2 := (8, [some (.ref b), some (.int x1)], [.int x1, .ref b, .ref b], (hput h b (Md.cells b B1)), c, n)) rfl ?_
  obtain ⟨v4, h3, hr⟩ := bd_some hr
  refine x_c0 (m_174 (hp_rg hb hh rfl) h3) rfl rfl rfl rfl (am_recv_v (h_lt (i := 0) hb (by decide)) (hp_at (i := 0) hh rfl rfl) rfl) (by omega) ?_
  refine x_b 1 (S2 := (12, [some (.ref b), some (.int x1)], [.int 1, .int v4, .ref b], (hput h b (Md.cells b B1)), c, n)) rfl ?_
  obtain ⟨⟨v6, B7⟩, h5, hr⟩ := bd_some hr
  refine x_c0 (m_135 hb hh h5) rfl rfl rfl rfl (am_recv_v (h_lt (i := 0) hb (by decide)) (hp_at (i := 0) hh rfl rfl) rfl) (by omega) ?_
  rcases ite_some hr with ⟨h8, hr⟩ | ⟨h8, hr⟩
  · refine x_zt rfl rfl (decide_eq_true h8) ?_
    refine x_ldan rfl rfl rfl (h_lt (i := 0) hb (by decide)) ?_
    refine x_b 1 (S2 := (22, [some (.ref b), some (.int x1)], [.int x1, .ref b], (hput h b (Md.cells b B7)), c, n)) rfl ?_
    obtain ⟨v10, h9, hr⟩ := bd_some hr
    refine x_c0 (m_241 (hp_rg hb hh rfl) h9) rfl rfl rfl rfl (am_recv_v (h_lt (i := 0) hb (by decide)) (hp_at (i := 0) hh rfl rfl) rfl) (by omega) ?_
    refine x_b 1 (S2 := (26, [some (.ref b), some (.int x1)], [.int (-1), .int v10], (hput h b (Md.cells b B7)), c, n)) rfl ?_
    rcases ite_some hr with ⟨h11, hr⟩ | ⟨h11, hr⟩
    · refine x_ct rfl rfl (decide_eq_true h11) ?_
      refine x_fg (Lq.n (Lq.n Lq.nil)) ?_
      exact j_245_0_j48 hd hb hh hr kr
    · refine x_cf rfl rfl (decide_eq_false h11) ?_
      refine x_ldan rfl rfl rfl (h_lt (i := 0) hb (by decide)) ?_
      refine x_b 2 (S2 := (32, [some (.ref b), some (.int x1)], [.int 1, .int x1, .ref b], (hput h b (Md.cells b B7)), c, n)) rfl ?_
      obtain ⟨v14, h13, hr⟩ := bd_some hr
      refine x_c0 (m_243 (hp_rg hb hh rfl) h13) rfl rfl rfl rfl (am_recv_v (h_lt (i := 0) hb (by decide)) (hp_at (i := 0) hh rfl rfl) rfl) (by omega) ?_
      refine x_ldan rfl rfl rfl (h_lt (i := 0) hb (by decide)) ?_
      refine x_b 2 (S2 := (38, [some (.ref b), some (.int x1)], [.int 0, .int x1, .ref b, .int v14], (hput h b (Md.cells b B7)), c, n)) rfl ?_
      obtain ⟨v16, h15, hr⟩ := bd_some hr
      refine x_c0 (m_243 (hp_rg hb hh rfl) h15) rfl rfl rfl rfl (am_recv_v (h_lt (i := 0) hb (by decide)) (hp_at (i := 0) hh rfl rfl) rfl) (by omega) ?_
      rcases ite_some hr with ⟨h17, hr⟩ | ⟨h17, hr⟩
      · refine x_ct rfl rfl (decide_eq_true h17) ?_
        refine x_fg (Lq.n (Lq.n Lq.nil)) ?_
        exact j_245_0_j48 hd hb hh hr kr
      · refine x_cf rfl rfl (decide_eq_false h17) ?_
        refine x_b 2 (S2 := (49, [some (.ref b), some (.int x1)], [.int 1], (hput h b (Md.cells b B7)), c, n)) rfl ?_
        refine x_fg (Lq.n (Lq.n Lq.nil)) ?_
        exact j_245_0_j49 hd hb hh hr kr
  · refine x_zf rfl rfl (decide_eq_false h8) ?_
    refine x_b 1 (S2 := (19, [some (.ref b), some (.int x1)], [.int 0], (hput h b (Md.cells b B7)), c, n)) rfl ?_
    cases hr
    rw [kr]
    exact x_ret rfl rfl (am_ret_z (by decide))
theorem m_245 {h : AHp} {b : Nat} (hb : b + 17 ≤ am_SB) (hh : b + 17 ≤ h.length) {B : Md} {x1 : Int32} {o : Int32 × (Md)} (hr : F_245 B x1 = some o) : Rn 6 245 [.ref b, .int x1] (hput h b (Md.cells b B)) (.inl (some (.int o.1)), hput h b (Md.cells b o.2), 0, 0) :=
  x_meth (M := am_M245) rfl (show 2 ≤ 2 by decide) (f_245 (Nat.le_refl _) hb hh hr rfl)
abbrev P_246_5 (H : AHp) (b : Nat) (c n : Nat) (B : Md) (x1 : Int32) (x2 : Int32) (s : Int32 × Int32) : ASt := (5, [some (.ref b), some (.int x1), some (.int x2), some (.int s.1), some (.int s.2), none], [], H, c, n)
abbrev PX_246_5 (H : AHp) (b : Nat) (c n : Nat) (B : Md) (x1 : Int32) (x2 : Int32) (s : Int32) : ASt := (72, [none, none, none, some (.int s), none, none], [], H, c, n)
def J_246_5_j64 (B : Md) (x1 : Int32) (x2 : Int32) (x4 : Int32) (t0 : Int32) (t1 : Int32) : Option ((Int32 × Int32) ⊕ (Int32)) :=
  some (.inl ((t1 + t0), (x4 + 1)))
theorem j_246_5_j64 {d : Nat} (hd : 5 ≤ d) {scr : ASc} {res : ARe} {c n : Nat} {H : AHp} {b : Nat} {B : Md} {x1 : Int32} {x2 : Int32} {x4 : Int32} {t0 : Int32} {t1 : Int32} (hR : Rg H b (Md.cells b B)) {o : (Int32 × Int32) ⊕ (Int32)} (hr : J_246_5_j64 B x1 x2 x4 t0 t1 = some o) (ka : ∀ s, o = .inl s → Ex d am_M246 scr (P_246_5 H b c n B x1 x2 s) res) (kx : ∀ s, o = .inr s → Ex d am_M246 scr (PX_246_5 H b c n B x1 x2 s) res) : Ex d am_M246 scr (64, [some (.ref b), some (.int x1), some (.int x2), none, some (.int x4), none], [.int t0, .int t1], H, c, n) res := by
  delta J_246_5_j64 at hr
  refine x_b 4 (S2 := (5, [some (.ref b), some (.int x1), some (.int x2), some (.int (t1 + t0)), some (.int (x4 + 1)), none], [], H, c, n)) rfl ?_
  refine x_fg (Lq.s (Lq.s (Lq.s (Lq.s (Lq.s (Lq.s Lq.nil)))))) ?_
  exact ka ((t1 + t0), (x4 + 1)) (Option.some.inj hr).symm
def J_246_5_j43 (B : Md) (x1 : Int32) (x2 : Int32) (x3 : Int32) (x4 : Int32) (t0 : Int32) : Option ((Int32 × Int32) ⊕ (Int32)) :=
  if t0 = 0 then
    J_246_5_j64 B x1 x2 x4 0 x3
  else
    (F_177 B x4 (1 + x1)).bind fun v9 =>
    J_246_5_j64 B x1 x2 x4 v9 x3
theorem j_246_5_j43 {d : Nat} (hd : 5 ≤ d) {scr : ASc} {res : ARe} {c n : Nat} {H : AHp} {b : Nat} {B : Md} {x1 : Int32} {x2 : Int32} {x3 : Int32} {x4 : Int32} {t0 : Int32} (hR : Rg H b (Md.cells b B)) {o : (Int32 × Int32) ⊕ (Int32)} (hr : J_246_5_j43 B x1 x2 x3 x4 t0 = some o) (ka : ∀ s, o = .inl s → Ex d am_M246 scr (P_246_5 H b c n B x1 x2 s) res) (kx : ∀ s, o = .inr s → Ex d am_M246 scr (PX_246_5 H b c n B x1 x2 s) res) : Ex d am_M246 scr (43, [some (.ref b), some (.int x1), some (.int x2), some (.int x3), some (.int x4), none], [.int t0], H, c, n) res := by
  delta J_246_5_j43 at hr
  refine x_b 3 (S2 := (48, [some (.ref b), some (.int x1), some (.int x2), some (.int x3), some (.int x4), some (.int t0)], [.int t0, .int x3], H, c, n)) rfl ?_
  rcases ite_some hr with ⟨h7, hr⟩ | ⟨h7, hr⟩
  · refine x_zt rfl rfl (decide_eq_true h7) ?_
    refine x_b 1 (S2 := (64, [some (.ref b), some (.int x1), some (.int x2), some (.int x3), some (.int x4), some (.int t0)], [.int 0, .int x3], H, c, n)) rfl ?_
    refine x_fg (Lq.s (Lq.s (Lq.s (Lq.n (Lq.s (Lq.n Lq.nil)))))) ?_
    exact j_246_5_j64 hd hR hr ka kx
  · refine x_zf rfl rfl (decide_eq_false h7) ?_
    refine x_ldan rfl rfl rfl (hR.lt (i := 0) (show 0 < 17 by decide)) ?_
    refine x_b 4 (S2 := (57, [some (.ref b), some (.int x1), some (.int x2), some (.int x3), some (.int x4), some (.int t0)], [.int (1 + x1), .int x4, .ref b, .int x3], H, c, n)) rfl ?_
    obtain ⟨v9, h8, hr⟩ := bd_some hr
    refine x_c0 (m_177 hR h8) rfl rfl rfl rfl (am_recv_v (hR.lt (i := 0) (show 0 < 17 by decide)) (hR.at (i := 0) rfl) rfl) (by omega) ?_
    refine x_b 1 (S2 := (64, [some (.ref b), some (.int x1), some (.int x2), some (.int x3), some (.int x4), some (.int t0)], [.int v9, .int x3], H, c, n)) rfl ?_
    refine x_fg (Lq.s (Lq.s (Lq.s (Lq.n (Lq.s (Lq.n Lq.nil)))))) ?_
    exact j_246_5_j64 hd hR hr ka kx
def J_246_5_j42 (B : Md) (x1 : Int32) (x2 : Int32) (x3 : Int32) (x4 : Int32) : Option ((Int32 × Int32) ⊕ (Int32)) :=
  J_246_5_j43 B x1 x2 x3 x4 0
theorem j_246_5_j42 {d : Nat} (hd : 5 ≤ d) {scr : ASc} {res : ARe} {c n : Nat} {H : AHp} {b : Nat} {B : Md} {x1 : Int32} {x2 : Int32} {x3 : Int32} {x4 : Int32} (hR : Rg H b (Md.cells b B)) {o : (Int32 × Int32) ⊕ (Int32)} (hr : J_246_5_j42 B x1 x2 x3 x4 = some o) (ka : ∀ s, o = .inl s → Ex d am_M246 scr (P_246_5 H b c n B x1 x2 s) res) (kx : ∀ s, o = .inr s → Ex d am_M246 scr (PX_246_5 H b c n B x1 x2 s) res) : Ex d am_M246 scr (42, [some (.ref b), some (.int x1), some (.int x2), some (.int x3), some (.int x4), none], [], H, c, n) res := by
  delta J_246_5_j42 at hr
  refine x_b 1 (S2 := (43, [some (.ref b), some (.int x1), some (.int x2), some (.int x3), some (.int x4), none], [.int 0], H, c, n)) rfl ?_
  refine x_fg (Lq.s (Lq.s (Lq.s (Lq.s (Lq.s (Lq.s Lq.nil)))))) ?_
  exact j_246_5_j43 hd hR hr ka kx
def G_246_5 (B : Md) (x1 : Int32) (x2 : Int32) (s : Int32 × Int32) : Option ((Int32 × Int32) ⊕ (Int32)) := 
  match s with
  | (x3, x4) =>
    (ix 14 93).bind fun i1 =>
    if (B.now i1) ≤ x4 then
      some (.inr x3)
    else
      (F_177 B x4 0).bind fun v5 =>
      if ¬ v5 = x2 then
        J_246_5_j42 B x1 x2 x3 x4
      else
        (F_241 B x4).bind fun v11 =>
        if ¬ v11 = (-1) then
          J_246_5_j42 B x1 x2 x3 x4
        else
          J_246_5_j43 B x1 x2 x3 x4 1
theorem g_246_5 {d : Nat} (hd : 5 ≤ d) {scr : ASc} {res : ARe} {c n : Nat} {H : AHp} {b : Nat} {B : Md} {x1 : Int32} {x2 : Int32} (hR : Rg H b (Md.cells b B)) {s : Int32 × Int32} {o : (Int32 × Int32) ⊕ (Int32)} (hr : G_246_5 B x1 x2 s = some o) (ka : ∀ s, o = .inl s → Ex d am_M246 scr (P_246_5 H b c n B x1 x2 s) res) (kx : ∀ s, o = .inr s → Ex d am_M246 scr (PX_246_5 H b c n B x1 x2 s) res) : Ex d am_M246 scr (P_246_5 H b c n B x1 x2 s) res := by
  obtain ⟨x3, x4⟩ := s
  delta G_246_5 at hr
  show Ex d am_M246 scr (5, [some (.ref b), some (.int x1), some (.int x2), some (.int x3), some (.int x4), none], [], H, c, n) res
  refine x_b 1 (S2 := (7, [some (.ref b), some (.int x1), some (.int x2), some (.int x3), some (.int x4), none], [.int x4], H, c, n)) rfl ?_
  refine x_ldan rfl rfl rfl (hR.lt (i := 0) (show 0 < 17 by decide)) ?_
  refine x_getf rfl rfl (hR.lt (i := 0) (show 0 < 17 by decide)) (hR.at (i := 0) rfl) rfl ?_
  refine x_b 1 (S2 := (13, [some (.ref b), some (.int x1), some (.int x2), some (.int x3), some (.int x4), none], [.int 14, .ref (b + 3), .int x4], H, c, n)) rfl ?_
  obtain ⟨i1, h2, hr⟩ := bd_some hr
  refine x_iald rfl rfl (hR.lt (i := 3) (show 3 < 17 by decide)) (hR.at (i := 3) rfl) h2 ?_
  rcases ite_some hr with ⟨h3, hr⟩ | ⟨h3, hr⟩
  · refine x_ct rfl rfl (decide_eq_true h3) ?_
    refine x_fg (Lq.n (Lq.n (Lq.n (Lq.s (Lq.n (Lq.s Lq.nil)))))) ?_
    exact kx x3 (Option.some.inj hr).symm
  · refine x_cf rfl rfl (decide_eq_false h3) ?_
    refine x_ldan rfl rfl rfl (hR.lt (i := 0) (show 0 < 17 by decide)) ?_
    refine x_b 2 (S2 := (21, [some (.ref b), some (.int x1), some (.int x2), some (.int x3), some (.int x4), none], [.int 0, .int x4, .ref b], H, c, n)) rfl ?_
    obtain ⟨v5, h4, hr⟩ := bd_some hr
    refine x_c0 (m_177 hR h4) rfl rfl rfl rfl (am_recv_v (hR.lt (i := 0) (show 0 < 17 by decide)) (hR.at (i := 0) rfl) rfl) (by omega) ?_
    refine x_b 1 (S2 := (25, [some (.ref b), some (.int x1), some (.int x2), some (.int x3), some (.int x4), none], [.int x2, .int v5], H, c, n)) rfl ?_
    rcases ite_some hr with ⟨h6, hr⟩ | ⟨h6, hr⟩
    · refine x_ct rfl rfl (decide_eq_true h6) ?_
      refine x_fg (Lq.s (Lq.s (Lq.s (Lq.s (Lq.s (Lq.s Lq.nil)))))) ?_
      exact j_246_5_j42 hd hR hr ka kx
    · refine x_cf rfl rfl (decide_eq_false h6) ?_
      refine x_ldan rfl rfl rfl (hR.lt (i := 0) (show 0 < 17 by decide)) ?_
      refine x_b 1 (S2 := (31, [some (.ref b), some (.int x1), some (.int x2), some (.int x3), some (.int x4), none], [.int x4, .ref b], H, c, n)) rfl ?_
      obtain ⟨v11, h10, hr⟩ := bd_some hr
      refine x_c0 (m_241 hR h10) rfl rfl rfl rfl (am_recv_v (hR.lt (i := 0) (show 0 < 17 by decide)) (hR.at (i := 0) rfl) rfl) (by omega) ?_
      refine x_b 1 (S2 := (35, [some (.ref b), some (.int x1), some (.int x2), some (.int x3), some (.int x4), none], [.int (-1), .int v11], H, c, n)) rfl ?_
      rcases ite_some hr with ⟨h12, hr⟩ | ⟨h12, hr⟩
      · refine x_ct rfl rfl (decide_eq_true h12) ?_
        refine x_fg (Lq.s (Lq.s (Lq.s (Lq.s (Lq.s (Lq.s Lq.nil)))))) ?_
        exact j_246_5_j42 hd hR hr ka kx
      · refine x_cf rfl rfl (decide_eq_false h12) ?_
        refine x_b 2 (S2 := (43, [some (.ref b), some (.int x1), some (.int x2), some (.int x3), some (.int x4), none], [.int 1], H, c, n)) rfl ?_
        refine x_fg (Lq.s (Lq.s (Lq.s (Lq.s (Lq.s (Lq.s Lq.nil)))))) ?_
        exact j_246_5_j43 hd hR hr ka kx
/-- PebbleProofsModel.weightsAt(II)I -/
def F_246 (B : Md) (x1 : Int32) (x2 : Int32) : Option (Int32) :=
  (lw (G_246_5 B x1 x2) 200000 (0, 0)).bind fun v14 =>
  some v14
theorem f_246 {d : Nat} (hd : 5 ≤ d) {scr : ASc} {res : ARe} {c n : Nat} {H : AHp} {b : Nat} {B : Md} {x1 : Int32} {x2 : Int32} (hR : Rg H b (Md.cells b B)) {o : Int32} (hr : F_246 B x1 x2 = some o) (kr : res = (.inl (some (.int o)), H, c, n)) : Ex d am_M246 scr (0, [some (.ref b), some (.int x1), some (.int x2), none, none, none], [], H, c, n) res := by
  delta F_246 at hr
  refine x_b 4 (S2 := (5, [some (.ref b), some (.int x1), some (.int x2), some (.int 0), some (.int 0), none], [], H, c, n)) rfl ?_
  refine x_fg (Lq.s (Lq.s (Lq.s (Lq.s (Lq.s (Lq.s Lq.nil)))))) ?_
  obtain ⟨v14, h13, hr⟩ := bd_some hr
  refine x_lw (P := P_246_5 H b c n B x1 x2) (Q := fun x => Ex d am_M246 scr (PX_246_5 H b c n B x1 x2 x) res) (fun s o h1 ka kx => g_246_5 hd hR h1 ka kx) _ (0, 0) _ h13 ?_
  show Ex d am_M246 scr (72, [none, none, none, some (.int v14), none, none], [], H, c, n) res
  refine x_b 1 (S2 := (73, [none, none, none, some (.int v14), none, none], [.int v14], H, c, n)) rfl ?_
  cases hr
  rw [kr]
  exact x_ret rfl rfl am_ret_i
theorem m_246 {H : AHp} {b : Nat} {B : Md} {x1 : Int32} {x2 : Int32} (hR : Rg H b (Md.cells b B)) {o : Int32} (hr : F_246 B x1 x2 = some o) : Rn 6 246 [.ref b, .int x1, .int x2] H (.inl (some (.int o)), H, 0, 0) :=
  x_meth (M := am_M246) rfl (show 3 ≤ 6 by decide) (f_246 (Nat.le_refl _) hR hr rfl)
abbrev P_247_43 (h : AHp) (b : Nat) (c n : Nat) (B : Md) (x1 : Int32) (s : Int32 × Int32 × Int32) : ASt := (43, [some (.ref b), some (.int x1), some (.int s.1), some (.int s.2.1), some (.int s.2.2)], [], (hput h b (Md.cells b B)), c, n)
abbrev PX_247_43 (h : AHp) (b : Nat) (c n : Nat) (B : Md) (x1 : Int32) (s : Int32 × Int32) : ASt := (88, [some (.ref b), none, some (.int s.1), some (.int s.2), none], [], (hput h b (Md.cells b B)), c, n)
def J_247_43_j82 (B : Md) (x1 : Int32) (x2 : Int32) (x3 : Int32) (x4 : Int32) : Option ((Int32 × Int32 × Int32) ⊕ (Int32 × Int32)) :=
  some (.inl (x2, x3, (x4 + 1)))
theorem j_247_43_j82 {d : Nat} (hd : 6 ≤ d) {scr : ASc} {res : ARe} {c n : Nat} {h : AHp} {b : Nat} (hb : b + 17 ≤ am_SB) (hh : b + 17 ≤ h.length) {B : Md} {x1 : Int32} {x2 : Int32} {x3 : Int32} {x4 : Int32} {o : (Int32 × Int32 × Int32) ⊕ (Int32 × Int32)} (hr : J_247_43_j82 B x1 x2 x3 x4 = some o) (ka : ∀ s, o = .inl s → Ex d am_M247 scr (P_247_43 h b c n B x1 s) res) (kx : ∀ s, o = .inr s → Ex d am_M247 scr (PX_247_43 h b c n B x1 s) res) : Ex d am_M247 scr (82, [some (.ref b), some (.int x1), some (.int x2), some (.int x3), some (.int x4)], [], (hput h b (Md.cells b B)), c, n) res := by
  delta J_247_43_j82 at hr
  refine x_b 2 (S2 := (43, [some (.ref b), some (.int x1), some (.int x2), some (.int x3), some (.int (x4 + 1))], [], (hput h b (Md.cells b B)), c, n)) rfl ?_
  refine x_fg (Lq.s (Lq.s (Lq.s (Lq.s (Lq.s Lq.nil))))) ?_
  exact ka (x2, x3, (x4 + 1)) (Option.some.inj hr).symm
def G_247_43 (B : Md) (x1 : Int32) (s : Int32 × Int32 × Int32) : Option ((Int32 × Int32 × Int32) ⊕ (Int32 × Int32)) := 
  match s with
  | (x2, x3, x4) =>
    (ix 0 93).bind fun i12 =>
    if (B.now i12) ≤ x4 then
      some (.inr (x2, x3))
    else
      if x4 = x1 then
        J_247_43_j82 B x1 x2 x3 x4
      else
        (F_246 B x4 x1).bind fun v17 =>
        (F_246 B x4 x1).bind fun v19 =>
        J_247_43_j82 B x1 (imn x2 v17) (x3 + v19) x4
theorem g_247_43 {d : Nat} (hd : 6 ≤ d) {scr : ASc} {res : ARe} {c n : Nat} {h : AHp} {b : Nat} (hb : b + 17 ≤ am_SB) (hh : b + 17 ≤ h.length) {B : Md} {x1 : Int32} {s : Int32 × Int32 × Int32} {o : (Int32 × Int32 × Int32) ⊕ (Int32 × Int32)} (hr : G_247_43 B x1 s = some o) (ka : ∀ s, o = .inl s → Ex d am_M247 scr (P_247_43 h b c n B x1 s) res) (kx : ∀ s, o = .inr s → Ex d am_M247 scr (PX_247_43 h b c n B x1 s) res) : Ex d am_M247 scr (P_247_43 h b c n B x1 s) res := by
  obtain ⟨x2, x3, x4⟩ := s
  delta G_247_43 at hr
  show Ex d am_M247 scr (43, [some (.ref b), some (.int x1), some (.int x2), some (.int x3), some (.int x4)], [], (hput h b (Md.cells b B)), c, n) res
  refine x_b 1 (S2 := (45, [some (.ref b), some (.int x1), some (.int x2), some (.int x3), some (.int x4)], [.int x4], (hput h b (Md.cells b B)), c, n)) rfl ?_
  refine x_ldan rfl rfl rfl (h_lt (i := 0) hb (by decide)) ?_
  refine x_getf rfl rfl (h_lt (i := 0) hb (by decide)) (hp_at (i := 0) hh rfl rfl) rfl ?_
  refine x_b 1 (S2 := (50, [some (.ref b), some (.int x1), some (.int x2), some (.int x3), some (.int x4)], [.int 0, .ref (b + 3), .int x4], (hput h b (Md.cells b B)), c, n)) rfl ?_
  obtain ⟨i12, h13, hr⟩ := bd_some hr
  refine x_iald rfl rfl (h_lt (i := 3) hb (by decide)) (hp_at (i := 3) hh rfl rfl) h13 ?_
  rcases ite_some hr with ⟨h14, hr⟩ | ⟨h14, hr⟩
  · refine x_ct rfl rfl (decide_eq_true h14) ?_
    refine x_fg (Lq.s (Lq.n (Lq.s (Lq.s (Lq.n Lq.nil))))) ?_
    exact kx (x2, x3) (Option.some.inj hr).symm
  · refine x_cf rfl rfl (decide_eq_false h14) ?_
    refine x_b 2 (S2 := (57, [some (.ref b), some (.int x1), some (.int x2), some (.int x3), some (.int x4)], [.int x1, .int x4], (hput h b (Md.cells b B)), c, n)) rfl ?_
    rcases ite_some hr with ⟨h15, hr⟩ | ⟨h15, hr⟩
    · refine x_ct rfl rfl (decide_eq_true h15) ?_
      refine x_fg (Lq.s (Lq.s (Lq.s (Lq.s (Lq.s Lq.nil))))) ?_
      exact j_247_43_j82 hd hb hh hr ka kx
    · refine x_cf rfl rfl (decide_eq_false h15) ?_
      refine x_b 1 (S2 := (61, [some (.ref b), some (.int x1), some (.int x2), some (.int x3), some (.int x4)], [.int x2], (hput h b (Md.cells b B)), c, n)) rfl ?_
      refine x_ldan rfl rfl rfl (h_lt (i := 0) hb (by decide)) ?_
      refine x_b 2 (S2 := (65, [some (.ref b), some (.int x1), some (.int x2), some (.int x3), some (.int x4)], [.int x1, .int x4, .ref b, .int x2], (hput h b (Md.cells b B)), c, n)) rfl ?_
      obtain ⟨v17, h16, hr⟩ := bd_some hr
      refine x_c0 (m_246 (hp_rg hb hh rfl) h16) rfl rfl rfl rfl (am_recv_v (h_lt (i := 0) hb (by decide)) (hp_at (i := 0) hh rfl rfl) rfl) (by omega) ?_
      refine x_b 3 (S2 := (73, [some (.ref b), some (.int x1), some (.int (imn x2 v17)), some (.int x3), some (.int x4)], [.int x3], (hput h b (Md.cells b B)), c, n)) rfl ?_
      refine x_ldan rfl rfl rfl (h_lt (i := 0) hb (by decide)) ?_
      refine x_b 2 (S2 := (77, [some (.ref b), some (.int x1), some (.int (imn x2 v17)), some (.int x3), some (.int x4)], [.int x1, .int x4, .ref b, .int x3], (hput h b (Md.cells b B)), c, n)) rfl ?_
      obtain ⟨v19, h18, hr⟩ := bd_some hr
      refine x_c0 (m_246 (hp_rg hb hh rfl) h18) rfl rfl rfl rfl (am_recv_v (h_lt (i := 0) hb (by decide)) (hp_at (i := 0) hh rfl rfl) rfl) (by omega) ?_
      refine x_b 2 (S2 := (82, [some (.ref b), some (.int x1), some (.int (imn x2 v17)), some (.int (x3 + v19)), some (.int x4)], [], (hput h b (Md.cells b B)), c, n)) rfl ?_
      refine x_fg (Lq.s (Lq.s (Lq.s (Lq.s (Lq.s Lq.nil))))) ?_
      exact j_247_43_j82 hd hb hh hr ka kx
def J_247_0_j114 (B : Md) (t0 : Int32) : Option (Int32 × (Md)) :=
  some (t0, B)
theorem j_247_0_j114 {d : Nat} (hd : 6 ≤ d) {scr : ASc} {res : ARe} {c n : Nat} {h : AHp} {b : Nat} (hb : b + 17 ≤ am_SB) (hh : b + 17 ≤ h.length) {B : Md} {t0 : Int32} {o : Int32 × (Md)} (hr : J_247_0_j114 B t0 = some o) (kr : res = (.inl (some (.int o.1)), hput h b (Md.cells b o.2), c, n)) : Ex d am_M247 scr (114, [none, none, none, none, none], [.int t0], (hput h b (Md.cells b B)), c, n) res := by
  delta J_247_0_j114 at hr
  cases hr
  rw [kr]
  exact x_ret rfl rfl am_ret_i
def J_247_0_j98 (B : Md) (x2 : Int32) (x3 : Int32) (t0 : Int32) : Option (Int32 × (Md)) :=
  (F_135 B t0 2).bind fun (v26, B27) =>
  if v26 = 0 then
    if x2 = 0 then none else
    J_247_0_j114 B27 ((x3 / x2) + 1)
  else
    J_247_0_j114 B27 0
theorem j_247_0_j98 {d : Nat} (hd : 6 ≤ d) {scr : ASc} {res : ARe} {c n : Nat} {h : AHp} {b : Nat} (hb : b + 17 ≤ am_SB) (hh : b + 17 ≤ h.length) {B : Md} {x2 : Int32} {x3 : Int32} {t0 : Int32} {o : Int32 × (Md)} (hr : J_247_0_j98 B x2 x3 t0 = some o) (kr : res = (.inl (some (.int o.1)), hput h b (Md.cells b o.2), c, n)) : Ex d am_M247 scr (98, [none, none, some (.int x2), some (.int x3), none], [.int t0, .ref b], (hput h b (Md.cells b B)), c, n) res := by
  delta J_247_0_j98 at hr
  refine x_b 1 (S2 := (99, [none, none, some (.int x2), some (.int x3), none], [.int 2, .int t0, .ref b], (hput h b (Md.cells b B)), c, n)) rfl ?_
  obtain ⟨⟨v26, B27⟩, h25, hr⟩ := bd_some hr
  refine x_c0 (m_135 hb hh h25) rfl rfl rfl rfl (am_recv_v (h_lt (i := 0) hb (by decide)) (hp_at (i := 0) hh rfl rfl) rfl) (by omega) ?_
  rcases ite_some hr with ⟨h28, hr⟩ | ⟨h28, hr⟩
  · refine x_zt rfl rfl (decide_eq_true h28) ?_
    refine x_b 2 (S2 := (111, [none, none, some (.int x2), some (.int x3), none], [.int x2, .int x3], (hput h b (Md.cells b B27)), c, n)) rfl ?_
    rcases ite_some hr with ⟨h29, hr⟩ | ⟨h29, hr⟩
    · cases hr
    refine x_div rfl rfl h29 ?_
    refine x_b 2 (S2 := (114, [none, none, some (.int x2), some (.int x3), none], [.int ((x3 / x2) + 1)], (hput h b (Md.cells b B27)), c, n)) rfl ?_
    refine x_fg (Lq.s (Lq.s (Lq.n (Lq.n (Lq.s Lq.nil))))) ?_
    exact j_247_0_j114 hd hb hh hr kr
  · refine x_zf rfl rfl (decide_eq_false h28) ?_
    refine x_b 2 (S2 := (114, [none, none, some (.int x2), some (.int x3), none], [.int 0], (hput h b (Md.cells b B27)), c, n)) rfl ?_
    refine x_fg (Lq.s (Lq.s (Lq.n (Lq.n (Lq.s Lq.nil))))) ?_
    exact j_247_0_j114 hd hb hh hr kr
def J_247_0_j37 (B : Md) (x1 : Int32) (t0 : Int32) : Option (Int32 × (Md)) :=
  (lw (G_247_43 B x1) 200000 (t0, 0, 0)).bind fun (v21, v22) =>
  if v21 ≤ 0 then
    J_247_0_j98 B v21 v22 0
  else
    J_247_0_j98 B v21 v22 1
theorem j_247_0_j37 {d : Nat} (hd : 6 ≤ d) {scr : ASc} {res : ARe} {c n : Nat} {h : AHp} {b : Nat} (hb : b + 17 ≤ am_SB) (hh : b + 17 ≤ h.length) {B : Md} {x1 : Int32} {t0 : Int32} {o : Int32 × (Md)} (hr : J_247_0_j37 B x1 t0 = some o) (kr : res = (.inl (some (.int o.1)), hput h b (Md.cells b o.2), c, n)) : Ex d am_M247 scr (37, [some (.ref b), some (.int x1), none, none, none], [.int t0], (hput h b (Md.cells b B)), c, n) res := by
  delta J_247_0_j37 at hr
  refine x_b 5 (S2 := (43, [some (.ref b), some (.int x1), some (.int t0), some (.int 0), some (.int 0)], [], (hput h b (Md.cells b B)), c, n)) rfl ?_
  refine x_fg (Lq.s (Lq.s (Lq.s (Lq.s (Lq.s Lq.nil))))) ?_
  obtain ⟨o23, h20, hr⟩ := bd_some hr
  refine x_lw (P := P_247_43 h b c n B x1) (Q := fun x => Ex d am_M247 scr (PX_247_43 h b c n B x1 x) res) (fun s o h1 ka kx => g_247_43 hd hb hh h1 ka kx) _ (t0, 0, 0) _ h20 ?_
  obtain ⟨v21, v22⟩ := o23
  show Ex d am_M247 scr (88, [some (.ref b), none, some (.int v21), some (.int v22), none], [], (hput h b (Md.cells b B)), c, n) res
  refine x_ldan rfl rfl rfl (h_lt (i := 0) hb (by decide)) ?_
  refine x_b 1 (S2 := (90, [some (.ref b), none, some (.int v21), some (.int v22), none], [.int v21, .ref b], (hput h b (Md.cells b B)), c, n)) rfl ?_
  rcases ite_some hr with ⟨h24, hr⟩ | ⟨h24, hr⟩
  · refine x_zt rfl rfl (decide_eq_true h24) ?_
    refine x_b 1 (S2 := (98, [some (.ref b), none, some (.int v21), some (.int v22), none], [.int 0, .ref b], (hput h b (Md.cells b B)), c, n)) rfl ?_
    refine x_fg (Lq.n (Lq.s (Lq.s (Lq.s (Lq.s Lq.nil))))) ?_
    exact j_247_0_j98 hd hb hh hr kr
  · refine x_zf rfl rfl (decide_eq_false h24) ?_
    refine x_b 2 (S2 := (98, [some (.ref b), none, some (.int v21), some (.int v22), none], [.int 1, .ref b], (hput h b (Md.cells b B)), c, n)) rfl ?_
    refine x_fg (Lq.n (Lq.s (Lq.s (Lq.s (Lq.s Lq.nil))))) ?_
    exact j_247_0_j98 hd hb hh hr kr
/-- PebbleProofsModel.bound(I)I -/
def F_247 (B : Md) (x1 : Int32) : Option (Int32 × (Md)) :=
  (some (B.w_thrown 0)).bind fun B1 =>
  (F_172 B1 x1).bind fun v4 =>
  (F_135 B1 v4 1).bind fun (v6, B7) =>
  if v6 = 0 then
    (ix 0 93).bind fun i9 =>
    if ¬ (B7.now i9) = 1 then
      J_247_0_j37 B7 x1 999
    else
      J_247_0_j37 B7 x1 1
  else
    some (0, B7)
theorem f_247 {d : Nat} (hd : 6 ≤ d) {scr : ASc} {res : ARe} {c n : Nat} {h : AHp} {b : Nat} (hb : b + 17 ≤ am_SB) (hh : b + 17 ≤ h.length) {B : Md} {x1 : Int32} {o : Int32 × (Md)} (hr : F_247 B x1 = some o) (kr : res = (.inl (some (.int o.1)), hput h b (Md.cells b o.2), c, n)) : Ex d am_M247 scr (0, [some (.ref b), some (.int x1), none, none, none], [], (hput h b (Md.cells b B)), c, n) res := by
  delta F_247 at hr
  refine x_ldan rfl rfl rfl (h_lt (i := 0) hb (by decide)) ?_
  refine x_b 1 (S2 := (2, [some (.ref b), some (.int x1), none, none, none], [.int 0, .ref b], (hput h b (Md.cells b B)), c, n)) rfl ?_
  obtain ⟨B1, h2, hr⟩ := bd_some hr
  refine x_putf (H := (hput h b (Md.cells b B1))) rfl rfl (h_lt (i := 0) hb (by decide)) (hp_at (i := 0) hh rfl rfl) ⟨(show 0 < 28 by decide), rfl, rfl, nofun⟩ (hp_set (i := 0) hh rfl (by decide) (Md.s_thrown rfl h2)) ?_
  refine x_ldan rfl rfl rfl (h_lt (i := 0) hb (by decide)) ?_
  refine x_ldan rfl rfl rfl (h_lt (i := 0) hb (by decide)) ?_
  refine x_b 1 (S2 := (8, [some (.ref b), some (.int x1), none, none, none], [.int x1, .ref b, .ref b], (hput h b (Md.cells b B1)), c, n)) rfl ?_
  obtain ⟨v4, h3, hr⟩ := bd_some hr
  refine x_c0 (m_172 (hp_rg hb hh rfl) h3) rfl rfl rfl rfl (am_recv_v (h_lt (i := 0) hb (by decide)) (hp_at (i := 0) hh rfl rfl) rfl) (by omega) ?_
  refine x_b 1 (S2 := (12, [some (.ref b), some (.int x1), none, none, none], [.int 1, .int v4, .ref b], (hput h b (Md.cells b B1)), c, n)) rfl ?_
  obtain ⟨⟨v6, B7⟩, h5, hr⟩ := bd_some hr
  refine x_c0 (m_135 hb hh h5) rfl rfl rfl rfl (am_recv_v (h_lt (i := 0) hb (by decide)) (hp_at (i := 0) hh rfl rfl) rfl) (by omega) ?_
  rcases ite_some hr with ⟨h8, hr⟩ | ⟨h8, hr⟩
  · refine x_zt rfl rfl (decide_eq_true h8) ?_
    refine x_ldan rfl rfl rfl (h_lt (i := 0) hb (by decide)) ?_
    refine x_getf rfl rfl (h_lt (i := 0) hb (by decide)) (hp_at (i := 0) hh rfl rfl) rfl ?_
    refine x_b 1 (S2 := (25, [some (.ref b), some (.int x1), none, none, none], [.int 0, .ref (b + 3)], (hput h b (Md.cells b B7)), c, n)) rfl ?_
    obtain ⟨i9, h10, hr⟩ := bd_some hr
    refine x_iald rfl rfl (h_lt (i := 3) hb (by decide)) (hp_at (i := 3) hh rfl rfl) h10 ?_
    refine x_b 1 (S2 := (27, [some (.ref b), some (.int x1), none, none, none], [.int 1, .int (B7.now i9)], (hput h b (Md.cells b B7)), c, n)) rfl ?_
    rcases ite_some hr with ⟨h11, hr⟩ | ⟨h11, hr⟩
    · refine x_ct rfl rfl (decide_eq_true h11) ?_
      refine x_b 1 (S2 := (37, [some (.ref b), some (.int x1), none, none, none], [.int 999], (hput h b (Md.cells b B7)), c, n)) rfl ?_
      refine x_fg (Lq.s (Lq.s (Lq.s (Lq.s (Lq.s Lq.nil))))) ?_
      exact j_247_0_j37 hd hb hh hr kr
    · refine x_cf rfl rfl (decide_eq_false h11) ?_
      refine x_b 2 (S2 := (37, [some (.ref b), some (.int x1), none, none, none], [.int 1], (hput h b (Md.cells b B7)), c, n)) rfl ?_
      refine x_fg (Lq.s (Lq.s (Lq.s (Lq.s (Lq.s Lq.nil))))) ?_
      exact j_247_0_j37 hd hb hh hr kr
  · refine x_zf rfl rfl (decide_eq_false h8) ?_
    refine x_b 1 (S2 := (19, [some (.ref b), some (.int x1), none, none, none], [.int 0], (hput h b (Md.cells b B7)), c, n)) rfl ?_
    cases hr
    rw [kr]
    exact x_ret rfl rfl am_ret_i
theorem m_247 {h : AHp} {b : Nat} (hb : b + 17 ≤ am_SB) (hh : b + 17 ≤ h.length) {B : Md} {x1 : Int32} {o : Int32 × (Md)} (hr : F_247 B x1 = some o) : Rn 7 247 [.ref b, .int x1] (hput h b (Md.cells b B)) (.inl (some (.int o.1)), hput h b (Md.cells b o.2), 0, 0) :=
  x_meth (M := am_M247) rfl (show 2 ≤ 5 by decide) (f_247 (Nat.le_refl _) hb hh hr rfl)
abbrev P_248_9 (h : AHp) (b : Nat) (c n : Nat) (B : Md) (x1 : Int32) (s : Int32 × Int32) : ASt := (9, [some (.ref b), some (.int x1), some (.int s.1), some (.int s.2)], [], (hput h b (Md.cells b B)), c, n)
abbrev PX_248_9 (h : AHp) (b : Nat) (c n : Nat) (B : Md) (x1 : Int32) (s : Int32) : ASt := (36, [none, none, some (.int s), none], [], (hput h b (Md.cells b B)), c, n)
def G_248_9 (B : Md) (x1 : Int32) (s : Int32 × Int32) : Option ((Int32 × Int32) ⊕ (Int32)) := 
  match s with
  | (x2, x3) =>
    (ix 0 93).bind fun i3 =>
    if (B.now i3) ≤ x3 then
      some (.inr x2)
    else
      (F_183 B x1 x3).bind fun v7 =>
      some (.inl ((x2 + (1 <<< (v7 &&& 31))), (x3 + 1)))
theorem g_248_9 {d : Nat} (hd : 3 ≤ d) {scr : ASc} {res : ARe} {c n : Nat} {h : AHp} {b : Nat} (hb : b + 17 ≤ am_SB) (hh : b + 17 ≤ h.length) {B : Md} {x1 : Int32} {s : Int32 × Int32} {o : (Int32 × Int32) ⊕ (Int32)} (hr : G_248_9 B x1 s = some o) (ka : ∀ s, o = .inl s → Ex d am_M248 scr (P_248_9 h b c n B x1 s) res) (kx : ∀ s, o = .inr s → Ex d am_M248 scr (PX_248_9 h b c n B x1 s) res) : Ex d am_M248 scr (P_248_9 h b c n B x1 s) res := by
  obtain ⟨x2, x3⟩ := s
  delta G_248_9 at hr
  show Ex d am_M248 scr (9, [some (.ref b), some (.int x1), some (.int x2), some (.int x3)], [], (hput h b (Md.cells b B)), c, n) res
  refine x_b 1 (S2 := (10, [some (.ref b), some (.int x1), some (.int x2), some (.int x3)], [.int x3], (hput h b (Md.cells b B)), c, n)) rfl ?_
  refine x_ldan rfl rfl rfl (h_lt (i := 0) hb (by decide)) ?_
  refine x_getf rfl rfl (h_lt (i := 0) hb (by decide)) (hp_at (i := 0) hh rfl rfl) rfl ?_
  refine x_b 1 (S2 := (15, [some (.ref b), some (.int x1), some (.int x2), some (.int x3)], [.int 0, .ref (b + 3), .int x3], (hput h b (Md.cells b B)), c, n)) rfl ?_
  obtain ⟨i3, h4, hr⟩ := bd_some hr
  refine x_iald rfl rfl (h_lt (i := 3) hb (by decide)) (hp_at (i := 3) hh rfl rfl) h4 ?_
  rcases ite_some hr with ⟨h5, hr⟩ | ⟨h5, hr⟩
  · refine x_ct rfl rfl (decide_eq_true h5) ?_
    refine x_fg (Lq.n (Lq.n (Lq.s (Lq.n Lq.nil)))) ?_
    exact kx x2 (Option.some.inj hr).symm
  · refine x_cf rfl rfl (decide_eq_false h5) ?_
    refine x_b 2 (S2 := (21, [some (.ref b), some (.int x1), some (.int x2), some (.int x3)], [.int 1, .int x2], (hput h b (Md.cells b B)), c, n)) rfl ?_
    refine x_ldan rfl rfl rfl (h_lt (i := 0) hb (by decide)) ?_
    refine x_b 2 (S2 := (24, [some (.ref b), some (.int x1), some (.int x2), some (.int x3)], [.int x3, .int x1, .ref b, .int 1, .int x2], (hput h b (Md.cells b B)), c, n)) rfl ?_
    obtain ⟨v7, h6, hr⟩ := bd_some hr
    refine x_c0 (m_183 (hp_rg hb hh rfl) h6) rfl rfl rfl rfl (am_recv_v (h_lt (i := 0) hb (by decide)) (hp_at (i := 0) hh rfl rfl) rfl) (by omega) ?_
    refine x_b 5 (S2 := (9, [some (.ref b), some (.int x1), some (.int (x2 + (1 <<< (v7 &&& 31)))), some (.int (x3 + 1))], [], (hput h b (Md.cells b B)), c, n)) rfl ?_
    refine x_fg (Lq.s (Lq.s (Lq.s (Lq.s Lq.nil)))) ?_
    exact ka ((x2 + (1 <<< (v7 &&& 31))), (x3 + 1)) (Option.some.inj hr).symm
/-- PebbleProofsModel.stackOf(I)I -/
def F_248 (B : Md) (x1 : Int32) : Option (Int32 × (Md)) :=
  (F_181 B x1).bind fun B2 =>
  (lw (G_248_9 B2 x1) 200000 (0, 0)).bind fun v9 =>
  some (v9, B2)
theorem f_248 {d : Nat} (hd : 3 ≤ d) {scr : ASc} {res : ARe} {c n : Nat} {h : AHp} {b : Nat} (hb : b + 17 ≤ am_SB) (hh : b + 17 ≤ h.length) {B : Md} {x1 : Int32} {o : Int32 × (Md)} (hr : F_248 B x1 = some o) (kr : res = (.inl (some (.int o.1)), hput h b (Md.cells b o.2), c, n)) : Ex d am_M248 scr (0, [some (.ref b), some (.int x1), none, none], [], (hput h b (Md.cells b B)), c, n) res := by
  delta F_248 at hr
  refine x_ldan rfl rfl rfl (h_lt (i := 0) hb (by decide)) ?_
  refine x_b 1 (S2 := (2, [some (.ref b), some (.int x1), none, none], [.int x1, .ref b], (hput h b (Md.cells b B)), c, n)) rfl ?_
  obtain ⟨B2, h1, hr⟩ := bd_some hr
  refine x_c0 (m_181 hb hh h1) rfl rfl rfl rfl (am_recv_v (h_lt (i := 0) hb (by decide)) (hp_at (i := 0) hh rfl rfl) rfl) (by omega) ?_
  refine x_b 4 (S2 := (9, [some (.ref b), some (.int x1), some (.int 0), some (.int 0)], [], (hput h b (Md.cells b B2)), c, n)) rfl ?_
  refine x_fg (Lq.s (Lq.s (Lq.s (Lq.s Lq.nil)))) ?_
  obtain ⟨v9, h8, hr⟩ := bd_some hr
  refine x_lw (P := P_248_9 h b c n B2 x1) (Q := fun x => Ex d am_M248 scr (PX_248_9 h b c n B2 x1 x) res) (fun s o h1 ka kx => g_248_9 hd hb hh h1 ka kx) _ (0, 0) _ h8 ?_
  show Ex d am_M248 scr (36, [none, none, some (.int v9), none], [], (hput h b (Md.cells b B2)), c, n) res
  refine x_b 1 (S2 := (37, [none, none, some (.int v9), none], [.int v9], (hput h b (Md.cells b B2)), c, n)) rfl ?_
  cases hr
  rw [kr]
  exact x_ret rfl rfl am_ret_i
theorem m_248 {h : AHp} {b : Nat} (hb : b + 17 ≤ am_SB) (hh : b + 17 ≤ h.length) {B : Md} {x1 : Int32} {o : Int32 × (Md)} (hr : F_248 B x1 = some o) : Rn 4 248 [.ref b, .int x1] (hput h b (Md.cells b B)) (.inl (some (.int o.1)), hput h b (Md.cells b o.2), 0, 0) :=
  x_meth (M := am_M248) rfl (show 2 ≤ 4 by decide) (f_248 (Nat.le_refl _) hb hh hr rfl)
def J_249_0_j27 (B : Md) (t0 : Int32) : Option (Int32 × (Md)) :=
  some (t0, B)
theorem j_249_0_j27 {d : Nat} (hd : 4 ≤ d) {scr : ASc} {res : ARe} {c n : Nat} {h : AHp} {b : Nat} (hb : b + 17 ≤ am_SB) (hh : b + 17 ≤ h.length) {B : Md} {t0 : Int32} {o : Int32 × (Md)} (hr : J_249_0_j27 B t0 = some o) (kr : res = (.inl (some (.int o.1)), hput h b (Md.cells b o.2), c, n)) : Ex d am_M249 scr (27, [none, none], [.int t0], (hput h b (Md.cells b B)), c, n) res := by
  delta J_249_0_j27 at hr
  cases hr
  rw [kr]
  exact x_ret rfl rfl am_ret_i
/-- PebbleProofsModel.stack(I)I -/
def F_249 (B : Md) (x1 : Int32) : Option (Int32 × (Md)) :=
  (some (B.w_thrown 0)).bind fun B1 =>
  (F_172 B1 x1).bind fun v4 =>
  (F_135 B1 v4 1).bind fun (v6, B7) =>
  if v6 = 0 then
    (F_248 B7 x1).bind fun (v10, B11) =>
    J_249_0_j27 B11 v10
  else
    J_249_0_j27 B7 0
theorem f_249 {d : Nat} (hd : 4 ≤ d) {scr : ASc} {res : ARe} {c n : Nat} {h : AHp} {b : Nat} (hb : b + 17 ≤ am_SB) (hh : b + 17 ≤ h.length) {B : Md} {x1 : Int32} {o : Int32 × (Md)} (hr : F_249 B x1 = some o) (kr : res = (.inl (some (.int o.1)), hput h b (Md.cells b o.2), c, n)) : Ex d am_M249 scr (0, [some (.ref b), some (.int x1)], [], (hput h b (Md.cells b B)), c, n) res := by
  delta F_249 at hr
  refine x_ldan rfl rfl rfl (h_lt (i := 0) hb (by decide)) ?_
  refine x_b 1 (S2 := (2, [some (.ref b), some (.int x1)], [.int 0, .ref b], (hput h b (Md.cells b B)), c, n)) rfl ?_
  obtain ⟨B1, h2, hr⟩ := bd_some hr
  refine x_putf (H := (hput h b (Md.cells b B1))) rfl rfl (h_lt (i := 0) hb (by decide)) (hp_at (i := 0) hh rfl rfl) ⟨(show 0 < 28 by decide), rfl, rfl, nofun⟩ (hp_set (i := 0) hh rfl (by decide) (Md.s_thrown rfl h2)) ?_
  refine x_ldan rfl rfl rfl (h_lt (i := 0) hb (by decide)) ?_
  refine x_ldan rfl rfl rfl (h_lt (i := 0) hb (by decide)) ?_
  refine x_b 1 (S2 := (8, [some (.ref b), some (.int x1)], [.int x1, .ref b, .ref b], (hput h b (Md.cells b B1)), c, n)) rfl ?_
  obtain ⟨v4, h3, hr⟩ := bd_some hr
  refine x_c0 (m_172 (hp_rg hb hh rfl) h3) rfl rfl rfl rfl (am_recv_v (h_lt (i := 0) hb (by decide)) (hp_at (i := 0) hh rfl rfl) rfl) (by omega) ?_
  refine x_b 1 (S2 := (12, [some (.ref b), some (.int x1)], [.int 1, .int v4, .ref b], (hput h b (Md.cells b B1)), c, n)) rfl ?_
  obtain ⟨⟨v6, B7⟩, h5, hr⟩ := bd_some hr
  refine x_c0 (m_135 hb hh h5) rfl rfl rfl rfl (am_recv_v (h_lt (i := 0) hb (by decide)) (hp_at (i := 0) hh rfl rfl) rfl) (by omega) ?_
  rcases ite_some hr with ⟨h8, hr⟩ | ⟨h8, hr⟩
  · refine x_zt rfl rfl (decide_eq_true h8) ?_
    refine x_ldan rfl rfl rfl (h_lt (i := 0) hb (by decide)) ?_
    refine x_b 1 (S2 := (24, [some (.ref b), some (.int x1)], [.int x1, .ref b], (hput h b (Md.cells b B7)), c, n)) rfl ?_
    obtain ⟨⟨v10, B11⟩, h9, hr⟩ := bd_some hr
    refine x_c0 (m_248 hb hh h9) rfl rfl rfl rfl (am_recv_v (h_lt (i := 0) hb (by decide)) (hp_at (i := 0) hh rfl rfl) rfl) (by omega) ?_
    refine x_fg (Lq.n (Lq.n Lq.nil)) ?_
    exact j_249_0_j27 hd hb hh hr kr
  · refine x_zf rfl rfl (decide_eq_false h8) ?_
    refine x_b 2 (S2 := (27, [some (.ref b), some (.int x1)], [.int 0], (hput h b (Md.cells b B7)), c, n)) rfl ?_
    refine x_fg (Lq.n (Lq.n Lq.nil)) ?_
    exact j_249_0_j27 hd hb hh hr kr
theorem m_249 {h : AHp} {b : Nat} (hb : b + 17 ≤ am_SB) (hh : b + 17 ≤ h.length) {B : Md} {x1 : Int32} {o : Int32 × (Md)} (hr : F_249 B x1 = some o) : Rn 5 249 [.ref b, .int x1] (hput h b (Md.cells b B)) (.inl (some (.int o.1)), hput h b (Md.cells b o.2), 0, 0) :=
  x_meth (M := am_M249) rfl (show 2 ≤ 2 by decide) (f_249 (Nat.le_refl _) hb hh hr rfl)
abbrev P_250_9 (h : AHp) (b : Nat) (c n : Nat)  (s : Int32 × Int32 × (Md)) : ASt := (9, [some (.ref b), some (.int s.1), some (.int s.2.1)], [], (hput h b (Md.cells b s.2.2)), c, n)
abbrev PX_250_9 (h : AHp) (b : Nat) (c n : Nat)  (s : Int32 × (Md)) : ASt := (35, [none, some (.int s.1), none], [], (hput h b (Md.cells b s.2)), c, n)
def G_250_9  (s : Int32 × Int32 × (Md)) : Option ((Int32 × Int32 × (Md)) ⊕ (Int32 × (Md))) := 
  match s with
  | (x1, x2, B) =>
    (ix 0 93).bind fun i3 =>
    if (B.now i3) ≤ x2 then
      some (.inr (x1, B))
    else
      (F_248 B x2).bind fun (v7, B8) =>
      some (.inl ((imx x1 v7), (x2 + 1), B8))
theorem g_250_9 {d : Nat} (hd : 4 ≤ d) {scr : ASc} {res : ARe} {c n : Nat} {h : AHp} {b : Nat} (hb : b + 17 ≤ am_SB) (hh : b + 17 ≤ h.length)  {s : Int32 × Int32 × (Md)} {o : (Int32 × Int32 × (Md)) ⊕ (Int32 × (Md))} (hr : G_250_9  s = some o) (ka : ∀ s, o = .inl s → Ex d am_M250 scr (P_250_9 h b c n  s) res) (kx : ∀ s, o = .inr s → Ex d am_M250 scr (PX_250_9 h b c n  s) res) : Ex d am_M250 scr (P_250_9 h b c n  s) res := by
  obtain ⟨x1, x2, B⟩ := s
  delta G_250_9 at hr
  show Ex d am_M250 scr (9, [some (.ref b), some (.int x1), some (.int x2)], [], (hput h b (Md.cells b B)), c, n) res
  refine x_b 1 (S2 := (10, [some (.ref b), some (.int x1), some (.int x2)], [.int x2], (hput h b (Md.cells b B)), c, n)) rfl ?_
  refine x_ldan rfl rfl rfl (h_lt (i := 0) hb (by decide)) ?_
  refine x_getf rfl rfl (h_lt (i := 0) hb (by decide)) (hp_at (i := 0) hh rfl rfl) rfl ?_
  refine x_b 1 (S2 := (15, [some (.ref b), some (.int x1), some (.int x2)], [.int 0, .ref (b + 3), .int x2], (hput h b (Md.cells b B)), c, n)) rfl ?_
  obtain ⟨i3, h4, hr⟩ := bd_some hr
  refine x_iald rfl rfl (h_lt (i := 3) hb (by decide)) (hp_at (i := 3) hh rfl rfl) h4 ?_
  rcases ite_some hr with ⟨h5, hr⟩ | ⟨h5, hr⟩
  · refine x_ct rfl rfl (decide_eq_true h5) ?_
    refine x_fg (Lq.n (Lq.s (Lq.n Lq.nil))) ?_
    exact kx (x1, B) (Option.some.inj hr).symm
  · refine x_cf rfl rfl (decide_eq_false h5) ?_
    refine x_b 1 (S2 := (20, [some (.ref b), some (.int x1), some (.int x2)], [.int x1], (hput h b (Md.cells b B)), c, n)) rfl ?_
    refine x_ldan rfl rfl rfl (h_lt (i := 0) hb (by decide)) ?_
    refine x_b 1 (S2 := (22, [some (.ref b), some (.int x1), some (.int x2)], [.int x2, .ref b, .int x1], (hput h b (Md.cells b B)), c, n)) rfl ?_
    obtain ⟨⟨v7, B8⟩, h6, hr⟩ := bd_some hr
    refine x_c0 (m_248 hb hh h6) rfl rfl rfl rfl (am_recv_v (h_lt (i := 0) hb (by decide)) (hp_at (i := 0) hh rfl rfl) rfl) (by omega) ?_
    refine x_b 4 (S2 := (9, [some (.ref b), some (.int (imx x1 v7)), some (.int (x2 + 1))], [], (hput h b (Md.cells b B8)), c, n)) rfl ?_
    refine x_fg (Lq.s (Lq.s (Lq.s Lq.nil))) ?_
    exact ka ((imx x1 v7), (x2 + 1), B8) (Option.some.inj hr).symm
/-- PebbleProofsModel.coverNumber()I -/
def F_250 (B : Md) : Option (Int32 × (Md)) :=
  (some (B.w_thrown 0)).bind fun B1 =>
  (lw (G_250_9 ) 200000 (0, 0, B1)).bind fun (v10, B11) =>
  some (v10, B11)
theorem f_250 {d : Nat} (hd : 4 ≤ d) {scr : ASc} {res : ARe} {c n : Nat} {h : AHp} {b : Nat} (hb : b + 17 ≤ am_SB) (hh : b + 17 ≤ h.length) {B : Md} {o : Int32 × (Md)} (hr : F_250 B = some o) (kr : res = (.inl (some (.int o.1)), hput h b (Md.cells b o.2), c, n)) : Ex d am_M250 scr (0, [some (.ref b), none, none], [], (hput h b (Md.cells b B)), c, n) res := by
  delta F_250 at hr
  refine x_ldan rfl rfl rfl (h_lt (i := 0) hb (by decide)) ?_
  refine x_b 1 (S2 := (2, [some (.ref b), none, none], [.int 0, .ref b], (hput h b (Md.cells b B)), c, n)) rfl ?_
  obtain ⟨B1, h2, hr⟩ := bd_some hr
  refine x_putf (H := (hput h b (Md.cells b B1))) rfl rfl (h_lt (i := 0) hb (by decide)) (hp_at (i := 0) hh rfl rfl) ⟨(show 0 < 28 by decide), rfl, rfl, nofun⟩ (hp_set (i := 0) hh rfl (by decide) (Md.s_thrown rfl h2)) ?_
  refine x_b 4 (S2 := (9, [some (.ref b), some (.int 0), some (.int 0)], [], (hput h b (Md.cells b B1)), c, n)) rfl ?_
  refine x_fg (Lq.s (Lq.s (Lq.s Lq.nil))) ?_
  obtain ⟨o12, h9, hr⟩ := bd_some hr
  refine x_lw (P := P_250_9 h b c n ) (Q := fun x => Ex d am_M250 scr (PX_250_9 h b c n  x) res) (fun s o h1 ka kx => g_250_9 hd hb hh h1 ka kx) _ (0, 0, B1) _ h9 ?_
  obtain ⟨v10, B11⟩ := o12
  show Ex d am_M250 scr (35, [none, some (.int v10), none], [], (hput h b (Md.cells b B11)), c, n) res
  refine x_b 1 (S2 := (36, [none, some (.int v10), none], [.int v10], (hput h b (Md.cells b B11)), c, n)) rfl ?_
  cases hr
  rw [kr]
  exact x_ret rfl rfl am_ret_i
theorem m_250 {h : AHp} {b : Nat} (hb : b + 17 ≤ am_SB) (hh : b + 17 ≤ h.length) {B : Md} {o : Int32 × (Md)} (hr : F_250 B = some o) : Rn 5 250 [.ref b] (hput h b (Md.cells b B)) (.inl (some (.int o.1)), hput h b (Md.cells b o.2), 0, 0) :=
  x_meth (M := am_M250) rfl (show 1 ≤ 3 by decide) (f_250 (Nat.le_refl _) hb hh hr rfl)
def J_251_0_j29 (B : Md) (t0 : Int32) : Option (Int32 × (Md)) :=
  if t0 = 0 ∨ t0 = 1 then some (t0, B) else none
theorem j_251_0_j29 {d : Nat} (hd : 6 ≤ d) {scr : ASc} {res : ARe} {c n : Nat} {h : AHp} {b : Nat} (hb : b + 17 ≤ am_SB) (hh : b + 17 ≤ h.length) {B : Md} {t0 : Int32} {o : Int32 × (Md)} (hr : J_251_0_j29 B t0 = some o) (kr : res = (.inl (some (.int o.1)), hput h b (Md.cells b o.2), c, n)) : Ex d am_M251 scr (29, [none], [.int t0], (hput h b (Md.cells b B)), c, n) res := by
  delta J_251_0_j29 at hr
  obtain ⟨h9, hr⟩ := itn_some hr
  cases hr
  rw [kr]
  exact x_ret rfl rfl (am_ret_z h9)
def J_251_0_j28 (B : Md) : Option (Int32 × (Md)) :=
  J_251_0_j29 B 0
theorem j_251_0_j28 {d : Nat} (hd : 6 ≤ d) {scr : ASc} {res : ARe} {c n : Nat} {h : AHp} {b : Nat} (hb : b + 17 ≤ am_SB) (hh : b + 17 ≤ h.length) {B : Md} {o : Int32 × (Md)} (hr : J_251_0_j28 B = some o) (kr : res = (.inl (some (.int o.1)), hput h b (Md.cells b o.2), c, n)) : Ex d am_M251 scr (28, [none], [], (hput h b (Md.cells b B)), c, n) res := by
  delta J_251_0_j28 at hr
  refine x_b 1 (S2 := (29, [none], [.int 0], (hput h b (Md.cells b B)), c, n)) rfl ?_
  refine x_fg (Lq.s Lq.nil) ?_
  exact j_251_0_j29 hd hb hh hr kr
/-- PebbleProofsModel.canCover()Z -/
def F_251 (B : Md) : Option (Int32 × (Md)) :=
  (some (B.w_thrown 0)).bind fun B1 =>
  (F_222 B1).bind fun v4 =>
  (F_135 B1 v4 1).bind fun (v6, B7) =>
  if ¬ v6 = 0 then
    J_251_0_j28 B7
  else
    (F_226 B7).bind fun (v11, B12) =>
    if ¬ v11 = 0 then
      J_251_0_j28 B12
    else
      J_251_0_j29 B12 1
theorem f_251 {d : Nat} (hd : 6 ≤ d) {scr : ASc} {res : ARe} {c n : Nat} {h : AHp} {b : Nat} (hb : b + 17 ≤ am_SB) (hh : b + 17 ≤ h.length) {B : Md} {o : Int32 × (Md)} (hr : F_251 B = some o) (kr : res = (.inl (some (.int o.1)), hput h b (Md.cells b o.2), c, n)) : Ex d am_M251 scr (0, [some (.ref b)], [], (hput h b (Md.cells b B)), c, n) res := by
  delta F_251 at hr
  refine x_ldan rfl rfl rfl (h_lt (i := 0) hb (by decide)) ?_
  refine x_b 1 (S2 := (2, [some (.ref b)], [.int 0, .ref b], (hput h b (Md.cells b B)), c, n)) rfl ?_
  obtain ⟨B1, h2, hr⟩ := bd_some hr
  refine x_putf (H := (hput h b (Md.cells b B1))) rfl rfl (h_lt (i := 0) hb (by decide)) (hp_at (i := 0) hh rfl rfl) ⟨(show 0 < 28 by decide), rfl, rfl, nofun⟩ (hp_set (i := 0) hh rfl (by decide) (Md.s_thrown rfl h2)) ?_
  refine x_ldan rfl rfl rfl (h_lt (i := 0) hb (by decide)) ?_
  refine x_ldan rfl rfl rfl (h_lt (i := 0) hb (by decide)) ?_
  obtain ⟨v4, h3, hr⟩ := bd_some hr
  refine x_c0 (m_222 (hp_rg hb hh rfl) h3) rfl rfl rfl rfl (am_recv_v (h_lt (i := 0) hb (by decide)) (hp_at (i := 0) hh rfl rfl) rfl) (by omega) ?_
  refine x_b 1 (S2 := (11, [some (.ref b)], [.int 1, .int v4, .ref b], (hput h b (Md.cells b B1)), c, n)) rfl ?_
  obtain ⟨⟨v6, B7⟩, h5, hr⟩ := bd_some hr
  refine x_c0 (m_135 hb hh h5) rfl rfl rfl rfl (am_recv_v (h_lt (i := 0) hb (by decide)) (hp_at (i := 0) hh rfl rfl) rfl) (by omega) ?_
  rcases ite_some hr with ⟨h8, hr⟩ | ⟨h8, hr⟩
  · refine x_zt rfl rfl (decide_eq_true h8) ?_
    refine x_fg (Lq.n Lq.nil) ?_
    exact j_251_0_j28 hd hb hh hr kr
  · refine x_zf rfl rfl (decide_eq_false h8) ?_
    refine x_ldan rfl rfl rfl (h_lt (i := 0) hb (by decide)) ?_
    obtain ⟨⟨v11, B12⟩, h10, hr⟩ := bd_some hr
    refine x_c0 (m_226 hb hh h10) rfl rfl rfl rfl (am_recv_v (h_lt (i := 0) hb (by decide)) (hp_at (i := 0) hh rfl rfl) rfl) (by omega) ?_
    rcases ite_some hr with ⟨h13, hr⟩ | ⟨h13, hr⟩
    · refine x_zt rfl rfl (decide_eq_true h13) ?_
      refine x_fg (Lq.n Lq.nil) ?_
      exact j_251_0_j28 hd hb hh hr kr
    · refine x_zf rfl rfl (decide_eq_false h13) ?_
      refine x_b 2 (S2 := (29, [some (.ref b)], [.int 1], (hput h b (Md.cells b B12)), c, n)) rfl ?_
      refine x_fg (Lq.n Lq.nil) ?_
      exact j_251_0_j29 hd hb hh hr kr
theorem m_251 {h : AHp} {b : Nat} (hb : b + 17 ≤ am_SB) (hh : b + 17 ≤ h.length) {B : Md} {o : Int32 × (Md)} (hr : F_251 B = some o) : Rn 7 251 [.ref b] (hput h b (Md.cells b B)) (.inl (some (.int o.1)), hput h b (Md.cells b o.2), 0, 0) :=
  x_meth (M := am_M251) rfl (show 1 ≤ 1 by decide) (f_251 (Nat.le_refl _) hb hh hr rfl)
def J_252_0_j25 (B : Md) (t0 : Int32) : Option (Int32 × (Md)) :=
  some (t0, B)
theorem j_252_0_j25 {d : Nat} (hd : 6 ≤ d) {scr : ASc} {res : ARe} {c n : Nat} {h : AHp} {b : Nat} (hb : b + 17 ≤ am_SB) (hh : b + 17 ≤ h.length) {B : Md} {t0 : Int32} {o : Int32 × (Md)} (hr : J_252_0_j25 B t0 = some o) (kr : res = (.inl (some (.int o.1)), hput h b (Md.cells b o.2), c, n)) : Ex d am_M252 scr (25, [none], [.int t0], (hput h b (Md.cells b B)), c, n) res := by
  delta J_252_0_j25 at hr
  cases hr
  rw [kr]
  exact x_ret rfl rfl am_ret_i
/-- PebbleProofsModel.lacking()I -/
def F_252 (B : Md) : Option (Int32 × (Md)) :=
  (some (B.w_thrown 0)).bind fun B1 =>
  (F_222 B1).bind fun v4 =>
  (F_135 B1 v4 1).bind fun (v6, B7) =>
  if v6 = 0 then
    (F_226 B7).bind fun (v10, B11) =>
    J_252_0_j25 B11 v10
  else
    J_252_0_j25 B7 0
theorem f_252 {d : Nat} (hd : 6 ≤ d) {scr : ASc} {res : ARe} {c n : Nat} {h : AHp} {b : Nat} (hb : b + 17 ≤ am_SB) (hh : b + 17 ≤ h.length) {B : Md} {o : Int32 × (Md)} (hr : F_252 B = some o) (kr : res = (.inl (some (.int o.1)), hput h b (Md.cells b o.2), c, n)) : Ex d am_M252 scr (0, [some (.ref b)], [], (hput h b (Md.cells b B)), c, n) res := by
  delta F_252 at hr
  refine x_ldan rfl rfl rfl (h_lt (i := 0) hb (by decide)) ?_
  refine x_b 1 (S2 := (2, [some (.ref b)], [.int 0, .ref b], (hput h b (Md.cells b B)), c, n)) rfl ?_
  obtain ⟨B1, h2, hr⟩ := bd_some hr
  refine x_putf (H := (hput h b (Md.cells b B1))) rfl rfl (h_lt (i := 0) hb (by decide)) (hp_at (i := 0) hh rfl rfl) ⟨(show 0 < 28 by decide), rfl, rfl, nofun⟩ (hp_set (i := 0) hh rfl (by decide) (Md.s_thrown rfl h2)) ?_
  refine x_ldan rfl rfl rfl (h_lt (i := 0) hb (by decide)) ?_
  refine x_ldan rfl rfl rfl (h_lt (i := 0) hb (by decide)) ?_
  obtain ⟨v4, h3, hr⟩ := bd_some hr
  refine x_c0 (m_222 (hp_rg hb hh rfl) h3) rfl rfl rfl rfl (am_recv_v (h_lt (i := 0) hb (by decide)) (hp_at (i := 0) hh rfl rfl) rfl) (by omega) ?_
  refine x_b 1 (S2 := (11, [some (.ref b)], [.int 1, .int v4, .ref b], (hput h b (Md.cells b B1)), c, n)) rfl ?_
  obtain ⟨⟨v6, B7⟩, h5, hr⟩ := bd_some hr
  refine x_c0 (m_135 hb hh h5) rfl rfl rfl rfl (am_recv_v (h_lt (i := 0) hb (by decide)) (hp_at (i := 0) hh rfl rfl) rfl) (by omega) ?_
  rcases ite_some hr with ⟨h8, hr⟩ | ⟨h8, hr⟩
  · refine x_zt rfl rfl (decide_eq_true h8) ?_
    refine x_ldan rfl rfl rfl (h_lt (i := 0) hb (by decide)) ?_
    obtain ⟨⟨v10, B11⟩, h9, hr⟩ := bd_some hr
    refine x_c0 (m_226 hb hh h9) rfl rfl rfl rfl (am_recv_v (h_lt (i := 0) hb (by decide)) (hp_at (i := 0) hh rfl rfl) rfl) (by omega) ?_
    refine x_fg (Lq.n Lq.nil) ?_
    exact j_252_0_j25 hd hb hh hr kr
  · refine x_zf rfl rfl (decide_eq_false h8) ?_
    refine x_b 2 (S2 := (25, [some (.ref b)], [.int 0], (hput h b (Md.cells b B7)), c, n)) rfl ?_
    refine x_fg (Lq.n Lq.nil) ?_
    exact j_252_0_j25 hd hb hh hr kr
theorem m_252 {h : AHp} {b : Nat} (hb : b + 17 ≤ am_SB) (hh : b + 17 ≤ h.length) {B : Md} {o : Int32 × (Md)} (hr : F_252 B = some o) : Rn 7 252 [.ref b] (hput h b (Md.cells b B)) (.inl (some (.int o.1)), hput h b (Md.cells b o.2), 0, 0) :=
  x_meth (M := am_M252) rfl (show 1 ≤ 1 by decide) (f_252 (Nat.le_refl _) hb hh hr rfl)
