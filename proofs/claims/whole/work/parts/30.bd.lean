/-- PebbleProofs$Board.edgeBits(II)J -/
def F_3 (x0 : Int32) (x1 : Int32) : Option (Int64) :=
  some ((1 <<< (((6 * x0) + x1).toInt64 &&& 63)) ||| (1 <<< (((6 * x1) + x0).toInt64 &&& 63)))
theorem f_3 {d : Nat} (hd : 1 ≤ d) {scr : ASc} {res : ARe} {c n : Nat} {H : AHp} {x0 : Int32} {x1 : Int32} {o : Int64} (hr : F_3 x0 x1 = some o) (kr : res = (.inl (some (.long o)), H, c, n)) : Ex d am_M3 scr (0, [some (.int x0), some (.int x1)], [], H, c, n) res := by
  delta F_3 at hr
  refine x_b 15 (S2 := (17, [some (.int x0), some (.int x1)], [.long ((1 <<< (((6 * x0) + x1).toInt64 &&& 63)) ||| (1 <<< (((6 * x1) + x0).toInt64 &&& 63)))], H, c, n)) rfl ?_
  cases hr
  rw [kr]
  exact x_ret rfl rfl rfl
theorem m_3 {H : AHp} {x0 : Int32} {x1 : Int32} {o : Int64} (hr : F_3 x0 x1 = some o) : Rn 2 3 [.int x0, .int x1] H (.inl (some (.long o)), H, 0, 0) :=
  x_meth (M := am_M3) rfl (show 2 ≤ 2 by decide) (f_3 (Nat.le_refl _) hr rfl)
/-- PebbleProofs$Board.join(II)V -/
def F_4 (B : Bd) (x1 : Int32) (x2 : Int32) : Option (Bd) :=
  (F_3 x1 x2).bind fun v2 =>
  some (B.w_edges (B.edges ||| v2))
theorem f_4 {d : Nat} (hd : 2 ≤ d) {scr : ASc} {res : ARe} {c n : Nat} {h : AHp} {b : Nat} (hb : b + 6 ≤ am_SB) (hh : b + 6 ≤ h.length) {B : Bd} {x1 : Int32} {x2 : Int32} {o : Bd} (hr : F_4 B x1 x2 = some o) (kr : res = (.inl (none), hput h b (Bd.cells b o), c, n)) : Ex d am_M4 scr (0, [some (.ref b), some (.int x1), some (.int x2)], [], (hput h b (Bd.cells b B)), c, n) res := by
  delta F_4 at hr
  refine x_ldan rfl rfl rfl (h_lt (i := 0) hb (by decide)) ?_
  refine x_b 1 (S2 := (2, [some (.ref b), some (.int x1), some (.int x2)], [.ref b, .ref b], (hput h b (Bd.cells b B)), c, n)) rfl ?_
  refine x_getf rfl rfl (h_lt (i := 0) hb (by decide)) (hp_at (i := 0) hh rfl rfl) rfl ?_
  refine x_b 2 (S2 := (7, [some (.ref b), some (.int x1), some (.int x2)], [.int x2, .int x1, .long B.edges, .ref b], (hput h b (Bd.cells b B)), c, n)) rfl ?_
  obtain ⟨v2, h1, hr⟩ := bd_some hr
  refine x_c0 (m_3 h1) rfl rfl rfl rfl rfl (by omega) ?_
  refine x_b 1 (S2 := (11, [some (.ref b), some (.int x1), some (.int x2)], [.long (B.edges ||| v2), .ref b], (hput h b (Bd.cells b B)), c, n)) rfl ?_
  refine x_putf (H := (hput h b (Bd.cells b (B.w_edges (B.edges ||| v2))))) rfl rfl (h_lt (i := 0) hb (by decide)) (hp_at (i := 0) hh rfl rfl) ⟨(show 1 < 9 by decide), rfl, rfl, nofun⟩ (hp_set (i := 0) hh rfl (by decide) rfl) ?_
  cases hr
  rw [kr]
  exact x_ret rfl rfl rfl
theorem m_4 {h : AHp} {b : Nat} (hb : b + 6 ≤ am_SB) (hh : b + 6 ≤ h.length) {B : Bd} {x1 : Int32} {x2 : Int32} {o : Bd} (hr : F_4 B x1 x2 = some o) : Rn 3 4 [.ref b, .int x1, .int x2] (hput h b (Bd.cells b B)) (.inl (none), hput h b (Bd.cells b o), 0, 0) :=
  x_meth (M := am_M4) rfl (show 3 ≤ 3 by decide) (f_4 (Nat.le_refl _) hb hh hr rfl)
/-- PebbleProofs$Board.part(II)V -/
def F_5 (B : Bd) (x1 : Int32) (x2 : Int32) : Option (Bd) :=
  (F_3 x1 x2).bind fun v2 =>
  some (B.w_edges (B.edges &&& (v2 ^^^ (18446744073709551615 : Int64))))
theorem f_5 {d : Nat} (hd : 2 ≤ d) {scr : ASc} {res : ARe} {c n : Nat} {h : AHp} {b : Nat} (hb : b + 6 ≤ am_SB) (hh : b + 6 ≤ h.length) {B : Bd} {x1 : Int32} {x2 : Int32} {o : Bd} (hr : F_5 B x1 x2 = some o) (kr : res = (.inl (none), hput h b (Bd.cells b o), c, n)) : Ex d am_M5 scr (0, [some (.ref b), some (.int x1), some (.int x2)], [], (hput h b (Bd.cells b B)), c, n) res := by
  delta F_5 at hr
  refine x_ldan rfl rfl rfl (h_lt (i := 0) hb (by decide)) ?_
  refine x_b 1 (S2 := (2, [some (.ref b), some (.int x1), some (.int x2)], [.ref b, .ref b], (hput h b (Bd.cells b B)), c, n)) rfl ?_
  refine x_getf rfl rfl (h_lt (i := 0) hb (by decide)) (hp_at (i := 0) hh rfl rfl) rfl ?_
  refine x_b 2 (S2 := (7, [some (.ref b), some (.int x1), some (.int x2)], [.int x2, .int x1, .long B.edges, .ref b], (hput h b (Bd.cells b B)), c, n)) rfl ?_
  obtain ⟨v2, h1, hr⟩ := bd_some hr
  refine x_c0 (m_3 h1) rfl rfl rfl rfl rfl (by omega) ?_
  refine x_b 3 (S2 := (15, [some (.ref b), some (.int x1), some (.int x2)], [.long (B.edges &&& (v2 ^^^ (18446744073709551615 : Int64))), .ref b], (hput h b (Bd.cells b B)), c, n)) rfl ?_
  refine x_putf (H := (hput h b (Bd.cells b (B.w_edges (B.edges &&& (v2 ^^^ (18446744073709551615 : Int64))))))) rfl rfl (h_lt (i := 0) hb (by decide)) (hp_at (i := 0) hh rfl rfl) ⟨(show 1 < 9 by decide), rfl, rfl, nofun⟩ (hp_set (i := 0) hh rfl (by decide) rfl) ?_
  cases hr
  rw [kr]
  exact x_ret rfl rfl rfl
theorem m_5 {h : AHp} {b : Nat} (hb : b + 6 ≤ am_SB) (hh : b + 6 ≤ h.length) {B : Bd} {x1 : Int32} {x2 : Int32} {o : Bd} (hr : F_5 B x1 x2 = some o) : Rn 3 5 [.ref b, .int x1, .int x2] (hput h b (Bd.cells b B)) (.inl (none), hput h b (Bd.cells b o), 0, 0) :=
  x_meth (M := am_M5) rfl (show 3 ≤ 3 by decide) (f_5 (Nat.le_refl _) hb hh hr rfl)
def J_6_0_j23 (B : Bd) (t0 : Int32) : Option (Int32) :=
  if t0 = 0 ∨ t0 = 1 then some t0 else none
theorem j_6_0_j23 {d : Nat} (hd : 1 ≤ d) {scr : ASc} {res : ARe} {c n : Nat} {H : AHp} {b : Nat} {B : Bd} {t0 : Int32} (hR : Rg H b (Bd.cells b B)) {o : Int32} (hr : J_6_0_j23 B t0 = some o) (kr : res = (.inl (some (.int o)), H, c, n)) : Ex d am_M6 scr (23, [none, none, none], [.int t0], H, c, n) res := by
  delta J_6_0_j23 at hr
  obtain ⟨h2, hr⟩ := itn_some hr
  cases hr
  rw [kr]
  exact x_ret rfl rfl (am_ret_z h2)
/-- PebbleProofs$Board.joins(II)Z -/
def F_6 (B : Bd) (x1 : Int32) (x2 : Int32) : Option (Int32) :=
  if (lg_cmp ((B.edges >>> (((6 * x1) + x2).toInt64 &&& 63)) &&& 1) 0) = 0 then
    J_6_0_j23 B 0
  else
    J_6_0_j23 B 1
theorem f_6 {d : Nat} (hd : 1 ≤ d) {scr : ASc} {res : ARe} {c n : Nat} {H : AHp} {b : Nat} {B : Bd} {x1 : Int32} {x2 : Int32} (hR : Rg H b (Bd.cells b B)) {o : Int32} (hr : F_6 B x1 x2 = some o) (kr : res = (.inl (some (.int o)), H, c, n)) : Ex d am_M6 scr (0, [some (.ref b), some (.int x1), some (.int x2)], [], H, c, n) res := by
  delta F_6 at hr
  refine x_ldan rfl rfl rfl (hR.lt (i := 0) (show 0 < 6 by decide)) ?_
  refine x_getf rfl rfl (hR.lt (i := 0) (show 0 < 6 by decide)) (hR.at (i := 0) rfl) rfl ?_
  refine x_b 10 (S2 := (15, [some (.ref b), some (.int x1), some (.int x2)], [.int (lg_cmp ((B.edges >>> (((6 * x1) + x2).toInt64 &&& 63)) &&& 1) 0)], H, c, n)) rfl ?_
  rcases ite_some hr with ⟨h1, hr⟩ | ⟨h1, hr⟩
  · refine x_zt rfl rfl (decide_eq_true h1) ?_
    refine x_b 1 (S2 := (23, [some (.ref b), some (.int x1), some (.int x2)], [.int 0], H, c, n)) rfl ?_
    refine x_fg (Lq.n (Lq.n (Lq.n Lq.nil))) ?_
    exact j_6_0_j23 hd hR hr kr
  · refine x_zf rfl rfl (decide_eq_false h1) ?_
    refine x_b 2 (S2 := (23, [some (.ref b), some (.int x1), some (.int x2)], [.int 1], H, c, n)) rfl ?_
    refine x_fg (Lq.n (Lq.n (Lq.n Lq.nil))) ?_
    exact j_6_0_j23 hd hR hr kr
theorem m_6 {H : AHp} {b : Nat} {B : Bd} {x1 : Int32} {x2 : Int32} (hR : Rg H b (Bd.cells b B)) {o : Int32} (hr : F_6 B x1 x2 = some o) : Rn 2 6 [.ref b, .int x1, .int x2] H (.inl (some (.int o)), H, 0, 0) :=
  x_meth (M := am_M6) rfl (show 3 ≤ 3 by decide) (f_6 (Nat.le_refl _) hR hr rfl)
/-- java/lang/Long.bitCount(J)I -/
def F_254 (x0 : Int64) : Option (Int32) :=
  some ((((((((((x0 - ((ulshr x0 1) &&& (6148914691236517205 : Int64))) &&& (3689348814741910323 : Int64)) + ((ulshr (x0 - ((ulshr x0 1) &&& (6148914691236517205 : Int64))) 2) &&& (3689348814741910323 : Int64))) + (ulshr (((x0 - ((ulshr x0 1) &&& (6148914691236517205 : Int64))) &&& (3689348814741910323 : Int64)) + ((ulshr (x0 - ((ulshr x0 1) &&& (6148914691236517205 : Int64))) 2) &&& (3689348814741910323 : Int64))) 4)) &&& (1085102592571150095 : Int64)) + (ulshr (((((x0 - ((ulshr x0 1) &&& (6148914691236517205 : Int64))) &&& (3689348814741910323 : Int64)) + ((ulshr (x0 - ((ulshr x0 1) &&& (6148914691236517205 : Int64))) 2) &&& (3689348814741910323 : Int64))) + (ulshr (((x0 - ((ulshr x0 1) &&& (6148914691236517205 : Int64))) &&& (3689348814741910323 : Int64)) + ((ulshr (x0 - ((ulshr x0 1) &&& (6148914691236517205 : Int64))) 2) &&& (3689348814741910323 : Int64))) 4)) &&& (1085102592571150095 : Int64)) 8)) + (ulshr ((((((x0 - ((ulshr x0 1) &&& (6148914691236517205 : Int64))) &&& (3689348814741910323 : Int64)) + ((ulshr (x0 - ((ulshr x0 1) &&& (6148914691236517205 : Int64))) 2) &&& (3689348814741910323 : Int64))) + (ulshr (((x0 - ((ulshr x0 1) &&& (6148914691236517205 : Int64))) &&& (3689348814741910323 : Int64)) + ((ulshr (x0 - ((ulshr x0 1) &&& (6148914691236517205 : Int64))) 2) &&& (3689348814741910323 : Int64))) 4)) &&& (1085102592571150095 : Int64)) + (ulshr (((((x0 - ((ulshr x0 1) &&& (6148914691236517205 : Int64))) &&& (3689348814741910323 : Int64)) + ((ulshr (x0 - ((ulshr x0 1) &&& (6148914691236517205 : Int64))) 2) &&& (3689348814741910323 : Int64))) + (ulshr (((x0 - ((ulshr x0 1) &&& (6148914691236517205 : Int64))) &&& (3689348814741910323 : Int64)) + ((ulshr (x0 - ((ulshr x0 1) &&& (6148914691236517205 : Int64))) 2) &&& (3689348814741910323 : Int64))) 4)) &&& (1085102592571150095 : Int64)) 8)) 16)) + (ulshr (((((((x0 - ((ulshr x0 1) &&& (6148914691236517205 : Int64))) &&& (3689348814741910323 : Int64)) + ((ulshr (x0 - ((ulshr x0 1) &&& (6148914691236517205 : Int64))) 2) &&& (3689348814741910323 : Int64))) + (ulshr (((x0 - ((ulshr x0 1) &&& (6148914691236517205 : Int64))) &&& (3689348814741910323 : Int64)) + ((ulshr (x0 - ((ulshr x0 1) &&& (6148914691236517205 : Int64))) 2) &&& (3689348814741910323 : Int64))) 4)) &&& (1085102592571150095 : Int64)) + (ulshr (((((x0 - ((ulshr x0 1) &&& (6148914691236517205 : Int64))) &&& (3689348814741910323 : Int64)) + ((ulshr (x0 - ((ulshr x0 1) &&& (6148914691236517205 : Int64))) 2) &&& (3689348814741910323 : Int64))) + (ulshr (((x0 - ((ulshr x0 1) &&& (6148914691236517205 : Int64))) &&& (3689348814741910323 : Int64)) + ((ulshr (x0 - ((ulshr x0 1) &&& (6148914691236517205 : Int64))) 2) &&& (3689348814741910323 : Int64))) 4)) &&& (1085102592571150095 : Int64)) 8)) + (ulshr ((((((x0 - ((ulshr x0 1) &&& (6148914691236517205 : Int64))) &&& (3689348814741910323 : Int64)) + ((ulshr (x0 - ((ulshr x0 1) &&& (6148914691236517205 : Int64))) 2) &&& (3689348814741910323 : Int64))) + (ulshr (((x0 - ((ulshr x0 1) &&& (6148914691236517205 : Int64))) &&& (3689348814741910323 : Int64)) + ((ulshr (x0 - ((ulshr x0 1) &&& (6148914691236517205 : Int64))) 2) &&& (3689348814741910323 : Int64))) 4)) &&& (1085102592571150095 : Int64)) + (ulshr (((((x0 - ((ulshr x0 1) &&& (6148914691236517205 : Int64))) &&& (3689348814741910323 : Int64)) + ((ulshr (x0 - ((ulshr x0 1) &&& (6148914691236517205 : Int64))) 2) &&& (3689348814741910323 : Int64))) + (ulshr (((x0 - ((ulshr x0 1) &&& (6148914691236517205 : Int64))) &&& (3689348814741910323 : Int64)) + ((ulshr (x0 - ((ulshr x0 1) &&& (6148914691236517205 : Int64))) 2) &&& (3689348814741910323 : Int64))) 4)) &&& (1085102592571150095 : Int64)) 8)) 16)) 32)).toInt32) &&& 127)
theorem f_254 {d : Nat} (hd : 1 ≤ d) {scr : ASc} {res : ARe} {c n : Nat} {H : AHp} {x0 : Int64} {o : Int32} (hr : F_254 x0 = some o) (kr : res = (.inl (some (.int o)), H, c, n)) : Ex d am_M254 scr (0, [some (.long x0), none], [], H, c, n) res := by
  delta F_254 at hr
  refine x_b 48 (S2 := (60, [some (.long ((((((((x0 - ((ulshr x0 1) &&& (6148914691236517205 : Int64))) &&& (3689348814741910323 : Int64)) + ((ulshr (x0 - ((ulshr x0 1) &&& (6148914691236517205 : Int64))) 2) &&& (3689348814741910323 : Int64))) + (ulshr (((x0 - ((ulshr x0 1) &&& (6148914691236517205 : Int64))) &&& (3689348814741910323 : Int64)) + ((ulshr (x0 - ((ulshr x0 1) &&& (6148914691236517205 : Int64))) 2) &&& (3689348814741910323 : Int64))) 4)) &&& (1085102592571150095 : Int64)) + (ulshr (((((x0 - ((ulshr x0 1) &&& (6148914691236517205 : Int64))) &&& (3689348814741910323 : Int64)) + ((ulshr (x0 - ((ulshr x0 1) &&& (6148914691236517205 : Int64))) 2) &&& (3689348814741910323 : Int64))) + (ulshr (((x0 - ((ulshr x0 1) &&& (6148914691236517205 : Int64))) &&& (3689348814741910323 : Int64)) + ((ulshr (x0 - ((ulshr x0 1) &&& (6148914691236517205 : Int64))) 2) &&& (3689348814741910323 : Int64))) 4)) &&& (1085102592571150095 : Int64)) 8)) + (ulshr ((((((x0 - ((ulshr x0 1) &&& (6148914691236517205 : Int64))) &&& (3689348814741910323 : Int64)) + ((ulshr (x0 - ((ulshr x0 1) &&& (6148914691236517205 : Int64))) 2) &&& (3689348814741910323 : Int64))) + (ulshr (((x0 - ((ulshr x0 1) &&& (6148914691236517205 : Int64))) &&& (3689348814741910323 : Int64)) + ((ulshr (x0 - ((ulshr x0 1) &&& (6148914691236517205 : Int64))) 2) &&& (3689348814741910323 : Int64))) 4)) &&& (1085102592571150095 : Int64)) + (ulshr (((((x0 - ((ulshr x0 1) &&& (6148914691236517205 : Int64))) &&& (3689348814741910323 : Int64)) + ((ulshr (x0 - ((ulshr x0 1) &&& (6148914691236517205 : Int64))) 2) &&& (3689348814741910323 : Int64))) + (ulshr (((x0 - ((ulshr x0 1) &&& (6148914691236517205 : Int64))) &&& (3689348814741910323 : Int64)) + ((ulshr (x0 - ((ulshr x0 1) &&& (6148914691236517205 : Int64))) 2) &&& (3689348814741910323 : Int64))) 4)) &&& (1085102592571150095 : Int64)) 8)) 16)) + (ulshr (((((((x0 - ((ulshr x0 1) &&& (6148914691236517205 : Int64))) &&& (3689348814741910323 : Int64)) + ((ulshr (x0 - ((ulshr x0 1) &&& (6148914691236517205 : Int64))) 2) &&& (3689348814741910323 : Int64))) + (ulshr (((x0 - ((ulshr x0 1) &&& (6148914691236517205 : Int64))) &&& (3689348814741910323 : Int64)) + ((ulshr (x0 - ((ulshr x0 1) &&& (6148914691236517205 : Int64))) 2) &&& (3689348814741910323 : Int64))) 4)) &&& (1085102592571150095 : Int64)) + (ulshr (((((x0 - ((ulshr x0 1) &&& (6148914691236517205 : Int64))) &&& (3689348814741910323 : Int64)) + ((ulshr (x0 - ((ulshr x0 1) &&& (6148914691236517205 : Int64))) 2) &&& (3689348814741910323 : Int64))) + (ulshr (((x0 - ((ulshr x0 1) &&& (6148914691236517205 : Int64))) &&& (3689348814741910323 : Int64)) + ((ulshr (x0 - ((ulshr x0 1) &&& (6148914691236517205 : Int64))) 2) &&& (3689348814741910323 : Int64))) 4)) &&& (1085102592571150095 : Int64)) 8)) + (ulshr ((((((x0 - ((ulshr x0 1) &&& (6148914691236517205 : Int64))) &&& (3689348814741910323 : Int64)) + ((ulshr (x0 - ((ulshr x0 1) &&& (6148914691236517205 : Int64))) 2) &&& (3689348814741910323 : Int64))) + (ulshr (((x0 - ((ulshr x0 1) &&& (6148914691236517205 : Int64))) &&& (3689348814741910323 : Int64)) + ((ulshr (x0 - ((ulshr x0 1) &&& (6148914691236517205 : Int64))) 2) &&& (3689348814741910323 : Int64))) 4)) &&& (1085102592571150095 : Int64)) + (ulshr (((((x0 - ((ulshr x0 1) &&& (6148914691236517205 : Int64))) &&& (3689348814741910323 : Int64)) + ((ulshr (x0 - ((ulshr x0 1) &&& (6148914691236517205 : Int64))) 2) &&& (3689348814741910323 : Int64))) + (ulshr (((x0 - ((ulshr x0 1) &&& (6148914691236517205 : Int64))) &&& (3689348814741910323 : Int64)) + ((ulshr (x0 - ((ulshr x0 1) &&& (6148914691236517205 : Int64))) 2) &&& (3689348814741910323 : Int64))) 4)) &&& (1085102592571150095 : Int64)) 8)) 16)) 32))), none], [.int ((((((((((x0 - ((ulshr x0 1) &&& (6148914691236517205 : Int64))) &&& (3689348814741910323 : Int64)) + ((ulshr (x0 - ((ulshr x0 1) &&& (6148914691236517205 : Int64))) 2) &&& (3689348814741910323 : Int64))) + (ulshr (((x0 - ((ulshr x0 1) &&& (6148914691236517205 : Int64))) &&& (3689348814741910323 : Int64)) + ((ulshr (x0 - ((ulshr x0 1) &&& (6148914691236517205 : Int64))) 2) &&& (3689348814741910323 : Int64))) 4)) &&& (1085102592571150095 : Int64)) + (ulshr (((((x0 - ((ulshr x0 1) &&& (6148914691236517205 : Int64))) &&& (3689348814741910323 : Int64)) + ((ulshr (x0 - ((ulshr x0 1) &&& (6148914691236517205 : Int64))) 2) &&& (3689348814741910323 : Int64))) + (ulshr (((x0 - ((ulshr x0 1) &&& (6148914691236517205 : Int64))) &&& (3689348814741910323 : Int64)) + ((ulshr (x0 - ((ulshr x0 1) &&& (6148914691236517205 : Int64))) 2) &&& (3689348814741910323 : Int64))) 4)) &&& (1085102592571150095 : Int64)) 8)) + (ulshr ((((((x0 - ((ulshr x0 1) &&& (6148914691236517205 : Int64))) &&& (3689348814741910323 : Int64)) + ((ulshr (x0 - ((ulshr x0 1) &&& (6148914691236517205 : Int64))) 2) &&& (3689348814741910323 : Int64))) + (ulshr (((x0 - ((ulshr x0 1) &&& (6148914691236517205 : Int64))) &&& (3689348814741910323 : Int64)) + ((ulshr (x0 - ((ulshr x0 1) &&& (6148914691236517205 : Int64))) 2) &&& (3689348814741910323 : Int64))) 4)) &&& (1085102592571150095 : Int64)) + (ulshr (((((x0 - ((ulshr x0 1) &&& (6148914691236517205 : Int64))) &&& (3689348814741910323 : Int64)) + ((ulshr (x0 - ((ulshr x0 1) &&& (6148914691236517205 : Int64))) 2) &&& (3689348814741910323 : Int64))) + (ulshr (((x0 - ((ulshr x0 1) &&& (6148914691236517205 : Int64))) &&& (3689348814741910323 : Int64)) + ((ulshr (x0 - ((ulshr x0 1) &&& (6148914691236517205 : Int64))) 2) &&& (3689348814741910323 : Int64))) 4)) &&& (1085102592571150095 : Int64)) 8)) 16)) + (ulshr (((((((x0 - ((ulshr x0 1) &&& (6148914691236517205 : Int64))) &&& (3689348814741910323 : Int64)) + ((ulshr (x0 - ((ulshr x0 1) &&& (6148914691236517205 : Int64))) 2) &&& (3689348814741910323 : Int64))) + (ulshr (((x0 - ((ulshr x0 1) &&& (6148914691236517205 : Int64))) &&& (3689348814741910323 : Int64)) + ((ulshr (x0 - ((ulshr x0 1) &&& (6148914691236517205 : Int64))) 2) &&& (3689348814741910323 : Int64))) 4)) &&& (1085102592571150095 : Int64)) + (ulshr (((((x0 - ((ulshr x0 1) &&& (6148914691236517205 : Int64))) &&& (3689348814741910323 : Int64)) + ((ulshr (x0 - ((ulshr x0 1) &&& (6148914691236517205 : Int64))) 2) &&& (3689348814741910323 : Int64))) + (ulshr (((x0 - ((ulshr x0 1) &&& (6148914691236517205 : Int64))) &&& (3689348814741910323 : Int64)) + ((ulshr (x0 - ((ulshr x0 1) &&& (6148914691236517205 : Int64))) 2) &&& (3689348814741910323 : Int64))) 4)) &&& (1085102592571150095 : Int64)) 8)) + (ulshr ((((((x0 - ((ulshr x0 1) &&& (6148914691236517205 : Int64))) &&& (3689348814741910323 : Int64)) + ((ulshr (x0 - ((ulshr x0 1) &&& (6148914691236517205 : Int64))) 2) &&& (3689348814741910323 : Int64))) + (ulshr (((x0 - ((ulshr x0 1) &&& (6148914691236517205 : Int64))) &&& (3689348814741910323 : Int64)) + ((ulshr (x0 - ((ulshr x0 1) &&& (6148914691236517205 : Int64))) 2) &&& (3689348814741910323 : Int64))) 4)) &&& (1085102592571150095 : Int64)) + (ulshr (((((x0 - ((ulshr x0 1) &&& (6148914691236517205 : Int64))) &&& (3689348814741910323 : Int64)) + ((ulshr (x0 - ((ulshr x0 1) &&& (6148914691236517205 : Int64))) 2) &&& (3689348814741910323 : Int64))) + (ulshr (((x0 - ((ulshr x0 1) &&& (6148914691236517205 : Int64))) &&& (3689348814741910323 : Int64)) + ((ulshr (x0 - ((ulshr x0 1) &&& (6148914691236517205 : Int64))) 2) &&& (3689348814741910323 : Int64))) 4)) &&& (1085102592571150095 : Int64)) 8)) 16)) 32)).toInt32) &&& 127)], H, c, n)) rfl ?_
  cases hr
  rw [kr]
  exact x_ret rfl rfl am_ret_i
theorem m_254 {H : AHp} {x0 : Int64} {o : Int32} (hr : F_254 x0 = some o) : Rn 2 254 [.long x0] H (.inl (some (.int o)), H, 0, 0) :=
  x_meth (M := am_M254) rfl (show 2 ≤ 2 by decide) (f_254 (Nat.le_refl _) hr rfl)
/-- PebbleProofs$Board.edgeCount()I -/
def F_7 (B : Bd) : Option (Int32) :=
  (F_254 B.edges).bind fun v2 =>
  some (v2 / 2)
theorem f_7 {d : Nat} (hd : 2 ≤ d) {scr : ASc} {res : ARe} {c n : Nat} {H : AHp} {b : Nat} {B : Bd} (hR : Rg H b (Bd.cells b B)) {o : Int32} (hr : F_7 B = some o) (kr : res = (.inl (some (.int o)), H, c, n)) : Ex d am_M7 scr (0, [some (.ref b)], [], H, c, n) res := by
  delta F_7 at hr
  refine x_ldan rfl rfl rfl (hR.lt (i := 0) (show 0 < 6 by decide)) ?_
  refine x_getf rfl rfl (hR.lt (i := 0) (show 0 < 6 by decide)) (hR.at (i := 0) rfl) rfl ?_
  obtain ⟨v2, h1, hr⟩ := bd_some hr
  refine x_c0 (m_254 h1) rfl rfl rfl rfl rfl (by omega) ?_
  refine x_b 1 (S2 := (8, [some (.ref b)], [.int 2, .int v2], H, c, n)) rfl ?_
  refine x_div rfl rfl (by decide) ?_
  cases hr
  rw [kr]
  exact x_ret rfl rfl am_ret_i
theorem m_7 {H : AHp} {b : Nat} {B : Bd} (hR : Rg H b (Bd.cells b B)) {o : Int32} (hr : F_7 B = some o) : Rn 3 7 [.ref b] H (.inl (some (.int o)), H, 0, 0) :=
  x_meth (M := am_M7) rfl (show 1 ≤ 1 by decide) (f_7 (Nat.le_refl _) hR hr rfl)
/-- PebbleProofs$Board.neighboursIn(JI)I -/
def F_8 (x0 : Int64) (x2 : Int32) : Option (Int32) :=
  some (((x0 >>> ((6 * x2).toInt64 &&& 63)).toInt32) &&& 63)
theorem f_8 {d : Nat} (hd : 1 ≤ d) {scr : ASc} {res : ARe} {c n : Nat} {H : AHp} {x0 : Int64} {x2 : Int32} {o : Int32} (hr : F_8 x0 x2 = some o) (kr : res = (.inl (some (.int o)), H, c, n)) : Ex d am_M8 scr (0, [some (.long x0), none, some (.int x2)], [], H, c, n) res := by
  delta F_8 at hr
  refine x_b 8 (S2 := (10, [some (.long x0), none, some (.int x2)], [.int (((x0 >>> ((6 * x2).toInt64 &&& 63)).toInt32) &&& 63)], H, c, n)) rfl ?_
  cases hr
  rw [kr]
  exact x_ret rfl rfl am_ret_i
theorem m_8 {H : AHp} {x0 : Int64} {x2 : Int32} {o : Int32} (hr : F_8 x0 x2 = some o) : Rn 2 8 [.long x0, .int x2] H (.inl (some (.int o)), H, 0, 0) :=
  x_meth (M := am_M8) rfl (show 3 ≤ 3 by decide) (f_8 (Nat.le_refl _) hr rfl)
/-- PebbleProofs$Board.neighbours(I)I -/
def F_9 (B : Bd) (x1 : Int32) : Option (Int32) :=
  (F_8 B.edges x1).bind fun v2 =>
  some v2
theorem f_9 {d : Nat} (hd : 2 ≤ d) {scr : ASc} {res : ARe} {c n : Nat} {H : AHp} {b : Nat} {B : Bd} {x1 : Int32} (hR : Rg H b (Bd.cells b B)) {o : Int32} (hr : F_9 B x1 = some o) (kr : res = (.inl (some (.int o)), H, c, n)) : Ex d am_M9 scr (0, [some (.ref b), some (.int x1)], [], H, c, n) res := by
  delta F_9 at hr
  refine x_ldan rfl rfl rfl (hR.lt (i := 0) (show 0 < 6 by decide)) ?_
  refine x_getf rfl rfl (hR.lt (i := 0) (show 0 < 6 by decide)) (hR.at (i := 0) rfl) rfl ?_
  refine x_b 1 (S2 := (5, [some (.ref b), some (.int x1)], [.int x1, .long B.edges], H, c, n)) rfl ?_
  obtain ⟨v2, h1, hr⟩ := bd_some hr
  refine x_c0 (m_8 h1) rfl rfl rfl rfl rfl (by omega) ?_
  cases hr
  rw [kr]
  exact x_ret rfl rfl am_ret_i
theorem m_9 {H : AHp} {b : Nat} {B : Bd} {x1 : Int32} (hR : Rg H b (Bd.cells b B)) {o : Int32} (hr : F_9 B x1 = some o) : Rn 3 9 [.ref b, .int x1] H (.inl (some (.int o)), H, 0, 0) :=
  x_meth (M := am_M9) rfl (show 2 ≤ 2 by decide) (f_9 (Nat.le_refl _) hR hr rfl)
/-- java/lang/Integer.bitCount(I)I -/
def F_253 (x0 : Int32) : Option (Int32) :=
  some ((((((((x0 - ((ushr x0 1) &&& (1431655765 : Int32))) &&& (858993459 : Int32)) + ((ushr (x0 - ((ushr x0 1) &&& (1431655765 : Int32))) 2) &&& (858993459 : Int32))) + (ushr (((x0 - ((ushr x0 1) &&& (1431655765 : Int32))) &&& (858993459 : Int32)) + ((ushr (x0 - ((ushr x0 1) &&& (1431655765 : Int32))) 2) &&& (858993459 : Int32))) 4)) &&& (252645135 : Int32)) + (ushr (((((x0 - ((ushr x0 1) &&& (1431655765 : Int32))) &&& (858993459 : Int32)) + ((ushr (x0 - ((ushr x0 1) &&& (1431655765 : Int32))) 2) &&& (858993459 : Int32))) + (ushr (((x0 - ((ushr x0 1) &&& (1431655765 : Int32))) &&& (858993459 : Int32)) + ((ushr (x0 - ((ushr x0 1) &&& (1431655765 : Int32))) 2) &&& (858993459 : Int32))) 4)) &&& (252645135 : Int32)) 8)) + (ushr ((((((x0 - ((ushr x0 1) &&& (1431655765 : Int32))) &&& (858993459 : Int32)) + ((ushr (x0 - ((ushr x0 1) &&& (1431655765 : Int32))) 2) &&& (858993459 : Int32))) + (ushr (((x0 - ((ushr x0 1) &&& (1431655765 : Int32))) &&& (858993459 : Int32)) + ((ushr (x0 - ((ushr x0 1) &&& (1431655765 : Int32))) 2) &&& (858993459 : Int32))) 4)) &&& (252645135 : Int32)) + (ushr (((((x0 - ((ushr x0 1) &&& (1431655765 : Int32))) &&& (858993459 : Int32)) + ((ushr (x0 - ((ushr x0 1) &&& (1431655765 : Int32))) 2) &&& (858993459 : Int32))) + (ushr (((x0 - ((ushr x0 1) &&& (1431655765 : Int32))) &&& (858993459 : Int32)) + ((ushr (x0 - ((ushr x0 1) &&& (1431655765 : Int32))) 2) &&& (858993459 : Int32))) 4)) &&& (252645135 : Int32)) 8)) 16)) &&& 63)
theorem f_253 {d : Nat} (hd : 1 ≤ d) {scr : ASc} {res : ARe} {c n : Nat} {H : AHp} {x0 : Int32} {o : Int32} (hr : F_253 x0 = some o) (kr : res = (.inl (some (.int o)), H, c, n)) : Ex d am_M253 scr (0, [some (.int x0)], [], H, c, n) res := by
  delta F_253 at hr
  refine x_b 41 (S2 := (52, [some (.int (((((((x0 - ((ushr x0 1) &&& (1431655765 : Int32))) &&& (858993459 : Int32)) + ((ushr (x0 - ((ushr x0 1) &&& (1431655765 : Int32))) 2) &&& (858993459 : Int32))) + (ushr (((x0 - ((ushr x0 1) &&& (1431655765 : Int32))) &&& (858993459 : Int32)) + ((ushr (x0 - ((ushr x0 1) &&& (1431655765 : Int32))) 2) &&& (858993459 : Int32))) 4)) &&& (252645135 : Int32)) + (ushr (((((x0 - ((ushr x0 1) &&& (1431655765 : Int32))) &&& (858993459 : Int32)) + ((ushr (x0 - ((ushr x0 1) &&& (1431655765 : Int32))) 2) &&& (858993459 : Int32))) + (ushr (((x0 - ((ushr x0 1) &&& (1431655765 : Int32))) &&& (858993459 : Int32)) + ((ushr (x0 - ((ushr x0 1) &&& (1431655765 : Int32))) 2) &&& (858993459 : Int32))) 4)) &&& (252645135 : Int32)) 8)) + (ushr ((((((x0 - ((ushr x0 1) &&& (1431655765 : Int32))) &&& (858993459 : Int32)) + ((ushr (x0 - ((ushr x0 1) &&& (1431655765 : Int32))) 2) &&& (858993459 : Int32))) + (ushr (((x0 - ((ushr x0 1) &&& (1431655765 : Int32))) &&& (858993459 : Int32)) + ((ushr (x0 - ((ushr x0 1) &&& (1431655765 : Int32))) 2) &&& (858993459 : Int32))) 4)) &&& (252645135 : Int32)) + (ushr (((((x0 - ((ushr x0 1) &&& (1431655765 : Int32))) &&& (858993459 : Int32)) + ((ushr (x0 - ((ushr x0 1) &&& (1431655765 : Int32))) 2) &&& (858993459 : Int32))) + (ushr (((x0 - ((ushr x0 1) &&& (1431655765 : Int32))) &&& (858993459 : Int32)) + ((ushr (x0 - ((ushr x0 1) &&& (1431655765 : Int32))) 2) &&& (858993459 : Int32))) 4)) &&& (252645135 : Int32)) 8)) 16)))], [.int ((((((((x0 - ((ushr x0 1) &&& (1431655765 : Int32))) &&& (858993459 : Int32)) + ((ushr (x0 - ((ushr x0 1) &&& (1431655765 : Int32))) 2) &&& (858993459 : Int32))) + (ushr (((x0 - ((ushr x0 1) &&& (1431655765 : Int32))) &&& (858993459 : Int32)) + ((ushr (x0 - ((ushr x0 1) &&& (1431655765 : Int32))) 2) &&& (858993459 : Int32))) 4)) &&& (252645135 : Int32)) + (ushr (((((x0 - ((ushr x0 1) &&& (1431655765 : Int32))) &&& (858993459 : Int32)) + ((ushr (x0 - ((ushr x0 1) &&& (1431655765 : Int32))) 2) &&& (858993459 : Int32))) + (ushr (((x0 - ((ushr x0 1) &&& (1431655765 : Int32))) &&& (858993459 : Int32)) + ((ushr (x0 - ((ushr x0 1) &&& (1431655765 : Int32))) 2) &&& (858993459 : Int32))) 4)) &&& (252645135 : Int32)) 8)) + (ushr ((((((x0 - ((ushr x0 1) &&& (1431655765 : Int32))) &&& (858993459 : Int32)) + ((ushr (x0 - ((ushr x0 1) &&& (1431655765 : Int32))) 2) &&& (858993459 : Int32))) + (ushr (((x0 - ((ushr x0 1) &&& (1431655765 : Int32))) &&& (858993459 : Int32)) + ((ushr (x0 - ((ushr x0 1) &&& (1431655765 : Int32))) 2) &&& (858993459 : Int32))) 4)) &&& (252645135 : Int32)) + (ushr (((((x0 - ((ushr x0 1) &&& (1431655765 : Int32))) &&& (858993459 : Int32)) + ((ushr (x0 - ((ushr x0 1) &&& (1431655765 : Int32))) 2) &&& (858993459 : Int32))) + (ushr (((x0 - ((ushr x0 1) &&& (1431655765 : Int32))) &&& (858993459 : Int32)) + ((ushr (x0 - ((ushr x0 1) &&& (1431655765 : Int32))) 2) &&& (858993459 : Int32))) 4)) &&& (252645135 : Int32)) 8)) 16)) &&& 63)], H, c, n)) rfl ?_
  cases hr
  rw [kr]
  exact x_ret rfl rfl am_ret_i
theorem m_253 {H : AHp} {x0 : Int32} {o : Int32} (hr : F_253 x0 = some o) : Rn 2 253 [.int x0] H (.inl (some (.int o)), H, 0, 0) :=
  x_meth (M := am_M253) rfl (show 1 ≤ 1 by decide) (f_253 (Nat.le_refl _) hr rfl)
abbrev P_10_5 (H : AHp) (b : Nat) (c n : Nat) (B : Bd) (x1 : Int64) (s : Int32 × Int32) : ASt := (5, [some (.ref b), some (.long x1), none, some (.int s.1), some (.int s.2), none], [], H, c, n)
abbrev PX_10_5 (H : AHp) (b : Nat) (c n : Nat) (B : Bd) (x1 : Int64) (s : Int32) : ASt := (56, [some (.ref b), none, none, some (.int s), none, none], [], H, c, n)
abbrev P_10_17 (H : AHp) (b : Nat) (c n : Nat) (B : Bd) (x1 : Int64) (x4 : Int32) (s : Int32 × Int32) : ASt := (17, [some (.ref b), some (.long x1), none, some (.int s.1), some (.int x4), some (.int s.2)], [], H, c, n)
abbrev PX_10_17 (H : AHp) (b : Nat) (c n : Nat) (B : Bd) (x1 : Int64) (x4 : Int32) (s : Int32) : ASt := (50, [some (.ref b), some (.long x1), none, some (.int s), some (.int x4), none], [], H, c, n)
def J_10_17_j44 (B : Bd) (x1 : Int64) (x3 : Int32) (x4 : Int32) (x5 : Int32) : Option ((Int32 × Int32) ⊕ (Int32)) :=
  some (.inl (x3, (x5 + 1)))
theorem j_10_17_j44 {d : Nat} (hd : 2 ≤ d) {scr : ASc} {res : ARe} {c n : Nat} {H : AHp} {b : Nat} {B : Bd} {x1 : Int64} {x3 : Int32} {x4 : Int32} {x5 : Int32} (hR : Rg H b (Bd.cells b B)) {o : (Int32 × Int32) ⊕ (Int32)} (hr : J_10_17_j44 B x1 x3 x4 x5 = some o) (ka : ∀ s, o = .inl s → Ex d am_M10 scr (P_10_17 H b c n B x1 x4 s) res) (kx : ∀ s, o = .inr s → Ex d am_M10 scr (PX_10_17 H b c n B x1 x4 s) res) : Ex d am_M10 scr (44, [some (.ref b), some (.long x1), none, some (.int x3), some (.int x4), some (.int x5)], [], H, c, n) res := by
  delta J_10_17_j44 at hr
  refine x_b 2 (S2 := (17, [some (.ref b), some (.long x1), none, some (.int x3), some (.int x4), some (.int (x5 + 1))], [], H, c, n)) rfl ?_
  refine x_fg (Lq.s (Lq.s (Lq.s (Lq.s (Lq.s (Lq.s Lq.nil)))))) ?_
  exact ka _ (Option.some.inj hr).symm
def G_10_17 (B : Bd) (x1 : Int64) (x4 : Int32) (s : Int32 × Int32) : Option ((Int32 × Int32) ⊕ (Int32)) := 
  match s with
  | (x3, x5) =>
    if B.vertices ≤ x5 then
      some (.inr x3)
    else
      if ((x3 >>> (x5 &&& 31)) &&& 1) = 0 then
        J_10_17_j44 B x1 x3 x4 x5
      else
        (F_8 x1 x5).bind fun v5 =>
        J_10_17_j44 B x1 (x3 ||| v5) x4 x5
theorem g_10_17 {d : Nat} (hd : 2 ≤ d) {scr : ASc} {res : ARe} {c n : Nat} {H : AHp} {b : Nat} {B : Bd} {x1 : Int64} {x4 : Int32} (hR : Rg H b (Bd.cells b B)) {s : Int32 × Int32} {o : (Int32 × Int32) ⊕ (Int32)} (hr : G_10_17 B x1 x4 s = some o) (ka : ∀ s, o = .inl s → Ex d am_M10 scr (P_10_17 H b c n B x1 x4 s) res) (kx : ∀ s, o = .inr s → Ex d am_M10 scr (PX_10_17 H b c n B x1 x4 s) res) : Ex d am_M10 scr (P_10_17 H b c n B x1 x4 s) res := by
  obtain ⟨x3, x5⟩ := s
  delta G_10_17 at hr
  show Ex d am_M10 scr (17, [some (.ref b), some (.long x1), none, some (.int x3), some (.int x4), some (.int x5)], [], H, c, n) res
  refine x_b 1 (S2 := (19, [some (.ref b), some (.long x1), none, some (.int x3), some (.int x4), some (.int x5)], [.int x5], H, c, n)) rfl ?_
  refine x_ldan rfl rfl rfl (hR.lt (i := 0) (show 0 < 6 by decide)) ?_
  refine x_getf rfl rfl (hR.lt (i := 0) (show 0 < 6 by decide)) (hR.at (i := 0) rfl) rfl ?_
  rcases ite_some hr with ⟨h2, hr⟩ | ⟨h2, hr⟩
  · refine x_ct rfl rfl (decide_eq_true h2) ?_
    refine x_fg (Lq.s (Lq.s (Lq.s (Lq.s (Lq.s (Lq.n Lq.nil)))))) ?_
    exact kx _ (Option.some.inj hr).symm
  · refine x_cf rfl rfl (decide_eq_false h2) ?_
    refine x_b 5 (S2 := (32, [some (.ref b), some (.long x1), none, some (.int x3), some (.int x4), some (.int x5)], [.int ((x3 >>> (x5 &&& 31)) &&& 1)], H, c, n)) rfl ?_
    rcases ite_some hr with ⟨h3, hr⟩ | ⟨h3, hr⟩
    · refine x_zt rfl rfl (decide_eq_true h3) ?_
      refine x_fg (Lq.s (Lq.s (Lq.s (Lq.s (Lq.s (Lq.s Lq.nil)))))) ?_
      exact j_10_17_j44 hd hR hr ka kx
    · refine x_zf rfl rfl (decide_eq_false h3) ?_
      refine x_b 3 (S2 := (39, [some (.ref b), some (.long x1), none, some (.int x3), some (.int x4), some (.int x5)], [.int x5, .long x1, .int x3], H, c, n)) rfl ?_
      obtain ⟨v5, h4, hr⟩ := bd_some hr
      refine x_c0 (m_8 h4) rfl rfl rfl rfl rfl (by omega) ?_
      refine x_b 2 (S2 := (44, [some (.ref b), some (.long x1), none, some (.int (x3 ||| v5)), some (.int x4), some (.int x5)], [], H, c, n)) rfl ?_
      refine x_fg (Lq.s (Lq.s (Lq.s (Lq.s (Lq.s (Lq.s Lq.nil)))))) ?_
      exact j_10_17_j44 hd hR hr ka kx
def G_10_5 (B : Bd) (x1 : Int64) (s : Int32 × Int32) : Option ((Int32 × Int32) ⊕ (Int32)) := 
  match s with
  | (x3, x4) =>
    if B.vertices ≤ x4 then
      some (.inr x3)
    else
      (lw (G_10_17 B x1 x4) 200000 (x3, 0)).bind fun v7 =>
      some (.inl (v7, (x4 + 1)))
theorem g_10_5 {d : Nat} (hd : 2 ≤ d) {scr : ASc} {res : ARe} {c n : Nat} {H : AHp} {b : Nat} {B : Bd} {x1 : Int64} (hR : Rg H b (Bd.cells b B)) {s : Int32 × Int32} {o : (Int32 × Int32) ⊕ (Int32)} (hr : G_10_5 B x1 s = some o) (ka : ∀ s, o = .inl s → Ex d am_M10 scr (P_10_5 H b c n B x1 s) res) (kx : ∀ s, o = .inr s → Ex d am_M10 scr (PX_10_5 H b c n B x1 s) res) : Ex d am_M10 scr (P_10_5 H b c n B x1 s) res := by
  obtain ⟨x3, x4⟩ := s
  delta G_10_5 at hr
  show Ex d am_M10 scr (5, [some (.ref b), some (.long x1), none, some (.int x3), some (.int x4), none], [], H, c, n) res
  refine x_b 1 (S2 := (7, [some (.ref b), some (.long x1), none, some (.int x3), some (.int x4), none], [.int x4], H, c, n)) rfl ?_
  refine x_ldan rfl rfl rfl (hR.lt (i := 0) (show 0 < 6 by decide)) ?_
  refine x_getf rfl rfl (hR.lt (i := 0) (show 0 < 6 by decide)) (hR.at (i := 0) rfl) rfl ?_
  rcases ite_some hr with ⟨h1, hr⟩ | ⟨h1, hr⟩
  · refine x_ct rfl rfl (decide_eq_true h1) ?_
    refine x_fg (Lq.s (Lq.n (Lq.s (Lq.s (Lq.n (Lq.s Lq.nil)))))) ?_
    exact kx _ (Option.some.inj hr).symm
  · refine x_cf rfl rfl (decide_eq_false h1) ?_
    refine x_b 2 (S2 := (17, [some (.ref b), some (.long x1), none, some (.int x3), some (.int x4), some (.int 0)], [], H, c, n)) rfl ?_
    refine x_fg (Lq.s (Lq.s (Lq.s (Lq.s (Lq.s (Lq.s Lq.nil)))))) ?_
    obtain ⟨v7, h6, hr⟩ := bd_some hr
    refine x_lw (P := P_10_17 H b c n B x1 x4) (Q := fun x => Ex d am_M10 scr (PX_10_17 H b c n B x1 x4 x) res) (fun s o h1 ka kx => g_10_17 hd hR h1 ka kx) _ (x3, 0) _ h6 ?_
    show Ex d am_M10 scr (50, [some (.ref b), some (.long x1), none, some (.int v7), some (.int x4), none], [], H, c, n) res
    refine x_b 2 (S2 := (5, [some (.ref b), some (.long x1), none, some (.int v7), some (.int (x4 + 1)), none], [], H, c, n)) rfl ?_
    refine x_fg (Lq.s (Lq.s (Lq.s (Lq.s (Lq.s (Lq.s Lq.nil)))))) ?_
    exact ka _ (Option.some.inj hr).symm
def J_10_0_j72 (B : Bd) (t0 : Int32) : Option (Int32) :=
  if t0 = 0 ∨ t0 = 1 then some t0 else none
theorem j_10_0_j72 {d : Nat} (hd : 2 ≤ d) {scr : ASc} {res : ARe} {c n : Nat} {H : AHp} {b : Nat} {B : Bd} {t0 : Int32} (hR : Rg H b (Bd.cells b B)) {o : Int32} (hr : J_10_0_j72 B t0 = some o) (kr : res = (.inl (some (.int o)), H, c, n)) : Ex d am_M10 scr (72, [none, none, none, none, none, none], [.int t0], H, c, n) res := by
  delta J_10_0_j72 at hr
  obtain ⟨h15, hr⟩ := itn_some hr
  cases hr
  rw [kr]
  exact x_ret rfl rfl (am_ret_z h15)
/-- PebbleProofs$Board.isConnectedBy(J)Z -/
def F_10 (B : Bd) (x1 : Int64) : Option (Int32) :=
  (lw (G_10_5 B x1) 200000 (1, 1)).bind fun v10 =>
  (F_253 v10).bind fun v13 =>
  if ¬ v13 = B.vertices then
    J_10_0_j72 B 0
  else
    J_10_0_j72 B 1
theorem f_10 {d : Nat} (hd : 2 ≤ d) {scr : ASc} {res : ARe} {c n : Nat} {H : AHp} {b : Nat} {B : Bd} {x1 : Int64} (hR : Rg H b (Bd.cells b B)) {o : Int32} (hr : F_10 B x1 = some o) (kr : res = (.inl (some (.int o)), H, c, n)) : Ex d am_M10 scr (0, [some (.ref b), some (.long x1), none, none, none, none], [], H, c, n) res := by
  delta F_10 at hr
  refine x_b 4 (S2 := (5, [some (.ref b), some (.long x1), none, some (.int 1), some (.int 1), none], [], H, c, n)) rfl ?_
  refine x_fg (Lq.s (Lq.s (Lq.s (Lq.s (Lq.s (Lq.s Lq.nil)))))) ?_
  obtain ⟨v10, h9, hr⟩ := bd_some hr
  refine x_lw (P := P_10_5 H b c n B x1) (Q := fun x => Ex d am_M10 scr (PX_10_5 H b c n B x1 x) res) (fun s o h1 ka kx => g_10_5 hd hR h1 ka kx) _ (1, 1) _ h9 ?_
  show Ex d am_M10 scr (56, [some (.ref b), none, none, some (.int v10), none, none], [], H, c, n) res
  refine x_b 1 (S2 := (57, [some (.ref b), none, none, some (.int v10), none, none], [.int v10], H, c, n)) rfl ?_
  obtain ⟨v13, h12, hr⟩ := bd_some hr
  refine x_c0 (m_253 h12) rfl rfl rfl rfl rfl (by omega) ?_
  refine x_ldan rfl rfl rfl (hR.lt (i := 0) (show 0 < 6 by decide)) ?_
  refine x_getf rfl rfl (hR.lt (i := 0) (show 0 < 6 by decide)) (hR.at (i := 0) rfl) rfl ?_
  rcases ite_some hr with ⟨h14, hr⟩ | ⟨h14, hr⟩
  · refine x_ct rfl rfl (decide_eq_true h14) ?_
    refine x_b 1 (S2 := (72, [some (.ref b), none, none, some (.int v10), none, none], [.int 0], H, c, n)) rfl ?_
    refine x_fg (Lq.n (Lq.s (Lq.s (Lq.n (Lq.s (Lq.s Lq.nil)))))) ?_
    exact j_10_0_j72 hd hR hr kr
  · refine x_cf rfl rfl (decide_eq_false h14) ?_
    refine x_b 2 (S2 := (72, [some (.ref b), none, none, some (.int v10), none, none], [.int 1], H, c, n)) rfl ?_
    refine x_fg (Lq.n (Lq.s (Lq.s (Lq.n (Lq.s (Lq.s Lq.nil)))))) ?_
    exact j_10_0_j72 hd hR hr kr
theorem m_10 {H : AHp} {b : Nat} {B : Bd} {x1 : Int64} (hR : Rg H b (Bd.cells b B)) {o : Int32} (hr : F_10 B x1 = some o) : Rn 3 10 [.ref b, .long x1] H (.inl (some (.int o)), H, 0, 0) :=
  x_meth (M := am_M10) rfl (show 3 ≤ 6 by decide) (f_10 (Nat.le_refl _) hR hr rfl)
/-- PebbleProofs$Board.isConnected()Z -/
def F_11 (B : Bd) : Option (Int32) :=
  (F_10 B B.edges).bind fun v2 =>
  if v2 = 0 ∨ v2 = 1 then some v2 else none
theorem f_11 {d : Nat} (hd : 3 ≤ d) {scr : ASc} {res : ARe} {c n : Nat} {H : AHp} {b : Nat} {B : Bd} (hR : Rg H b (Bd.cells b B)) {o : Int32} (hr : F_11 B = some o) (kr : res = (.inl (some (.int o)), H, c, n)) : Ex d am_M11 scr (0, [some (.ref b)], [], H, c, n) res := by
  delta F_11 at hr
  refine x_ldan rfl rfl rfl (hR.lt (i := 0) (show 0 < 6 by decide)) ?_
  refine x_ldan rfl rfl rfl (hR.lt (i := 0) (show 0 < 6 by decide)) ?_
  refine x_getf rfl rfl (hR.lt (i := 0) (show 0 < 6 by decide)) (hR.at (i := 0) rfl) rfl ?_
  obtain ⟨v2, h1, hr⟩ := bd_some hr
  refine x_c0 (m_10 hR h1) rfl rfl rfl rfl (am_recv_v (hR.lt (i := 0) (show 0 < 6 by decide)) (hR.at (i := 0) rfl) rfl) (by omega) ?_
  obtain ⟨h3, hr⟩ := itn_some hr
  cases hr
  rw [kr]
  exact x_ret rfl rfl (am_ret_z h3)
theorem m_11 {H : AHp} {b : Nat} {B : Bd} (hR : Rg H b (Bd.cells b B)) {o : Int32} (hr : F_11 B = some o) : Rn 4 11 [.ref b] H (.inl (some (.int o)), H, 0, 0) :=
  x_meth (M := am_M11) rfl (show 1 ≤ 1 by decide) (f_11 (Nat.le_refl _) hR hr rfl)
/-- PebbleProofs$Board.isConnectedWithout(II)Z -/
def F_12 (B : Bd) (x1 : Int32) (x2 : Int32) : Option (Int32) :=
  (F_3 x1 x2).bind fun v2 =>
  (F_10 B (B.edges &&& (v2 ^^^ (18446744073709551615 : Int64)))).bind fun v4 =>
  if v4 = 0 ∨ v4 = 1 then some v4 else none
theorem f_12 {d : Nat} (hd : 3 ≤ d) {scr : ASc} {res : ARe} {c n : Nat} {H : AHp} {b : Nat} {B : Bd} {x1 : Int32} {x2 : Int32} (hR : Rg H b (Bd.cells b B)) {o : Int32} (hr : F_12 B x1 x2 = some o) (kr : res = (.inl (some (.int o)), H, c, n)) : Ex d am_M12 scr (0, [some (.ref b), some (.int x1), some (.int x2)], [], H, c, n) res := by
  delta F_12 at hr
  refine x_ldan rfl rfl rfl (hR.lt (i := 0) (show 0 < 6 by decide)) ?_
  refine x_ldan rfl rfl rfl (hR.lt (i := 0) (show 0 < 6 by decide)) ?_
  refine x_getf rfl rfl (hR.lt (i := 0) (show 0 < 6 by decide)) (hR.at (i := 0) rfl) rfl ?_
  refine x_b 2 (S2 := (7, [some (.ref b), some (.int x1), some (.int x2)], [.int x2, .int x1, .long B.edges, .ref b], H, c, n)) rfl ?_
  obtain ⟨v2, h1, hr⟩ := bd_some hr
  refine x_c0 (m_3 h1) rfl rfl rfl rfl rfl (by omega) ?_
  refine x_b 3 (S2 := (15, [some (.ref b), some (.int x1), some (.int x2)], [.long (B.edges &&& (v2 ^^^ (18446744073709551615 : Int64))), .ref b], H, c, n)) rfl ?_
  obtain ⟨v4, h3, hr⟩ := bd_some hr
  refine x_c0 (m_10 hR h3) rfl rfl rfl rfl (am_recv_v (hR.lt (i := 0) (show 0 < 6 by decide)) (hR.at (i := 0) rfl) rfl) (by omega) ?_
  obtain ⟨h5, hr⟩ := itn_some hr
  cases hr
  rw [kr]
  exact x_ret rfl rfl (am_ret_z h5)
theorem m_12 {H : AHp} {b : Nat} {B : Bd} {x1 : Int32} {x2 : Int32} (hR : Rg H b (Bd.cells b B)) {o : Int32} (hr : F_12 B x1 x2 = some o) : Rn 4 12 [.ref b, .int x1, .int x2] H (.inl (some (.int o)), H, 0, 0) :=
  x_meth (M := am_M12) rfl (show 3 ≤ 3 by decide) (f_12 (Nat.le_refl _) hR hr rfl)
abbrev P_14_9 (h : AHp) (b : Nat) (c n : Nat) (x1 : Int32) (s : Int32 × Int32 × Int32 × Bd) : ASt := (9, [some (.ref b), some (.int x1), some (.int s.1), some (.int s.2.1), some (.int s.2.2.1), none, none], [], (hput h b (Bd.cells b s.2.2.2)), c, n)
abbrev PX_14_9 (h : AHp) (b : Nat) (c n : Nat) (x1 : Int32) (s : Bd) : ASt := (90, [none, none, none, none, none, none, none], [], (hput h b (Bd.cells b s)), c, n)
abbrev P_14_28 (h : AHp) (b : Nat) (c n : Nat) (x1 : Int32) (x2 : Int32) (x3 : Int32) (x4 : Int32) (s : Int32 × Int32 × Bd) : ASt := (28, [some (.ref b), some (.int x1), some (.int x2), some (.int x3), some (.int x4), some (.int s.1), some (.int s.2.1)], [], (hput h b (Bd.cells b s.2.2)), c, n)
abbrev PX_14_28 (h : AHp) (b : Nat) (c n : Nat) (x1 : Int32) (x2 : Int32) (x3 : Int32) (x4 : Int32) (s : Int32 × Bd) : ASt := (77, [some (.ref b), some (.int x1), some (.int x2), none, some (.int x4), some (.int s.1), none], [], (hput h b (Bd.cells b s.2)), c, n)
def J_14_28_j71 (B : Bd) (x1 : Int32) (x2 : Int32) (x3 : Int32) (x4 : Int32) (x5 : Int32) (x6 : Int32) : Option ((Int32 × Int32 × Bd) ⊕ (Int32 × Bd)) :=
  some (.inl (x5, (x6 + 1), B))
theorem j_14_28_j71 {d : Nat} (hd : 3 ≤ d) {scr : ASc} {res : ARe} {c n : Nat} {h : AHp} {b : Nat} (hb : b + 6 ≤ am_SB) (hh : b + 6 ≤ h.length) {B : Bd} {x1 : Int32} {x2 : Int32} {x3 : Int32} {x4 : Int32} {x5 : Int32} {x6 : Int32} {o : (Int32 × Int32 × Bd) ⊕ (Int32 × Bd)} (hr : J_14_28_j71 B x1 x2 x3 x4 x5 x6 = some o) (ka : ∀ s, o = .inl s → Ex d am_M14 scr (P_14_28 h b c n x1 x2 x3 x4 s) res) (kx : ∀ s, o = .inr s → Ex d am_M14 scr (PX_14_28 h b c n x1 x2 x3 x4 s) res) : Ex d am_M14 scr (71, [some (.ref b), some (.int x1), some (.int x2), some (.int x3), some (.int x4), some (.int x5), some (.int x6)], [], (hput h b (Bd.cells b B)), c, n) res := by
  delta J_14_28_j71 at hr
  refine x_b 2 (S2 := (28, [some (.ref b), some (.int x1), some (.int x2), some (.int x3), some (.int x4), some (.int x5), some (.int (x6 + 1))], [], (hput h b (Bd.cells b B)), c, n)) rfl ?_
  refine x_fg (Lq.s (Lq.s (Lq.s (Lq.s (Lq.s (Lq.s (Lq.s Lq.nil))))))) ?_
  exact ka _ (Option.some.inj hr).symm
def G_14_28 (x1 : Int32) (x2 : Int32) (x3 : Int32) (x4 : Int32) (s : Int32 × Int32 × Bd) : Option ((Int32 × Int32 × Bd) ⊕ (Int32 × Bd)) := 
  match s with
  | (x5, x6, B) =>
    if B.vertices ≤ x6 then
      some (.inr (x5, B))
    else
      if ((x3 >>> (x6 &&& 31)) &&& 1) = 0 then
        J_14_28_j71 B x1 x2 x3 x4 x5 x6
      else
        (ix ((6 * x1) + x6) 36).bind fun i4 =>
        (F_9 (B.w_distances (upd B.distances i4 x4)) x6).bind fun v7 =>
        J_14_28_j71 (B.w_distances (upd B.distances i4 x4)) x1 x2 x3 x4 (x5 ||| v7) x6
theorem g_14_28 {d : Nat} (hd : 3 ≤ d) {scr : ASc} {res : ARe} {c n : Nat} {h : AHp} {b : Nat} (hb : b + 6 ≤ am_SB) (hh : b + 6 ≤ h.length) {x1 : Int32} {x2 : Int32} {x3 : Int32} {x4 : Int32} {s : Int32 × Int32 × Bd} {o : (Int32 × Int32 × Bd) ⊕ (Int32 × Bd)} (hr : G_14_28 x1 x2 x3 x4 s = some o) (ka : ∀ s, o = .inl s → Ex d am_M14 scr (P_14_28 h b c n x1 x2 x3 x4 s) res) (kx : ∀ s, o = .inr s → Ex d am_M14 scr (PX_14_28 h b c n x1 x2 x3 x4 s) res) : Ex d am_M14 scr (P_14_28 h b c n x1 x2 x3 x4 s) res := by
  obtain ⟨x5, x6, B⟩ := s
  delta G_14_28 at hr
  show Ex d am_M14 scr (28, [some (.ref b), some (.int x1), some (.int x2), some (.int x3), some (.int x4), some (.int x5), some (.int x6)], [], (hput h b (Bd.cells b B)), c, n) res
  refine x_b 1 (S2 := (30, [some (.ref b), some (.int x1), some (.int x2), some (.int x3), some (.int x4), some (.int x5), some (.int x6)], [.int x6], (hput h b (Bd.cells b B)), c, n)) rfl ?_
  refine x_ldan rfl rfl rfl (h_lt (i := 0) hb (by decide)) ?_
  refine x_getf rfl rfl (h_lt (i := 0) hb (by decide)) (hp_at (i := 0) hh rfl rfl) rfl ?_
  rcases ite_some hr with ⟨h2, hr⟩ | ⟨h2, hr⟩
  · refine x_ct rfl rfl (decide_eq_true h2) ?_
    refine x_fg (Lq.s (Lq.s (Lq.s (Lq.n (Lq.s (Lq.s (Lq.n Lq.nil))))))) ?_
    exact kx _ (Option.some.inj hr).symm
  · refine x_cf rfl rfl (decide_eq_false h2) ?_
    refine x_b 5 (S2 := (43, [some (.ref b), some (.int x1), some (.int x2), some (.int x3), some (.int x4), some (.int x5), some (.int x6)], [.int ((x3 >>> (x6 &&& 31)) &&& 1)], (hput h b (Bd.cells b B)), c, n)) rfl ?_
    rcases ite_some hr with ⟨h3, hr⟩ | ⟨h3, hr⟩
    · refine x_zt rfl rfl (decide_eq_true h3) ?_
      refine x_fg (Lq.s (Lq.s (Lq.s (Lq.s (Lq.s (Lq.s (Lq.s Lq.nil))))))) ?_
      exact j_14_28_j71 hd hb hh hr ka kx
    · refine x_zf rfl rfl (decide_eq_false h3) ?_
      refine x_ldan rfl rfl rfl (h_lt (i := 0) hb (by decide)) ?_
      refine x_getf rfl rfl (h_lt (i := 0) hb (by decide)) (hp_at (i := 0) hh rfl rfl) rfl ?_
      refine x_b 6 (S2 := (59, [some (.ref b), some (.int x1), some (.int x2), some (.int x3), some (.int x4), some (.int x5), some (.int x6)], [.int x4, .int ((6 * x1) + x6), .ref (b + 2)], (hput h b (Bd.cells b B)), c, n)) rfl ?_
      obtain ⟨i4, h5, hr⟩ := bd_some hr
      refine x_iast (H := (hput h b (Bd.cells b (B.w_distances (upd B.distances i4 x4))))) rfl rfl (h_lt (i := 2) hb (by decide)) (hp_at (i := 2) hh rfl rfl) h5 (hp_set (i := 2) hh rfl (by decide) rfl) ?_
      refine x_b 1 (S2 := (62, [some (.ref b), some (.int x1), some (.int x2), some (.int x3), some (.int x4), some (.int x5), some (.int x6)], [.int x5], (hput h b (Bd.cells b (B.w_distances (upd B.distances i4 x4)))), c, n)) rfl ?_
      refine x_ldan rfl rfl rfl (h_lt (i := 0) hb (by decide)) ?_
      refine x_b 1 (S2 := (65, [some (.ref b), some (.int x1), some (.int x2), some (.int x3), some (.int x4), some (.int x5), some (.int x6)], [.int x6, .ref b, .int x5], (hput h b (Bd.cells b (B.w_distances (upd B.distances i4 x4)))), c, n)) rfl ?_
      obtain ⟨v7, h6, hr⟩ := bd_some hr
      refine x_c0 (m_9 (hp_rg hb hh rfl) h6) rfl rfl rfl rfl (am_recv_v (h_lt (i := 0) hb (by decide)) (hp_at (i := 0) hh rfl rfl) rfl) (by omega) ?_
      refine x_b 2 (S2 := (71, [some (.ref b), some (.int x1), some (.int x2), some (.int x3), some (.int x4), some (.int (x5 ||| v7)), some (.int x6)], [], (hput h b (Bd.cells b (B.w_distances (upd B.distances i4 x4)))), c, n)) rfl ?_
      refine x_fg (Lq.s (Lq.s (Lq.s (Lq.s (Lq.s (Lq.s (Lq.s Lq.nil))))))) ?_
      exact j_14_28_j71 hd hb hh hr ka kx
def G_14_9 (x1 : Int32) (s : Int32 × Int32 × Int32 × Bd) : Option ((Int32 × Int32 × Int32 × Bd) ⊕ (Bd)) := 
  match s with
  | (x2, x3, x4, B) =>
    if B.vertices ≤ x4 then
      some (.inr B)
    else
      (lw (G_14_28 x1 (x2 ||| x3) x3 x4) 200000 (0, 0, B)).bind fun (v9, B10) =>
      some (.inl ((x2 ||| x3), (v9 &&& ((x2 ||| x3) ^^^ (-1))), (x4 + 1), B10))
theorem g_14_9 {d : Nat} (hd : 3 ≤ d) {scr : ASc} {res : ARe} {c n : Nat} {h : AHp} {b : Nat} (hb : b + 6 ≤ am_SB) (hh : b + 6 ≤ h.length) {x1 : Int32} {s : Int32 × Int32 × Int32 × Bd} {o : (Int32 × Int32 × Int32 × Bd) ⊕ (Bd)} (hr : G_14_9 x1 s = some o) (ka : ∀ s, o = .inl s → Ex d am_M14 scr (P_14_9 h b c n x1 s) res) (kx : ∀ s, o = .inr s → Ex d am_M14 scr (PX_14_9 h b c n x1 s) res) : Ex d am_M14 scr (P_14_9 h b c n x1 s) res := by
  obtain ⟨x2, x3, x4, B⟩ := s
  delta G_14_9 at hr
  show Ex d am_M14 scr (9, [some (.ref b), some (.int x1), some (.int x2), some (.int x3), some (.int x4), none, none], [], (hput h b (Bd.cells b B)), c, n) res
  refine x_b 1 (S2 := (11, [some (.ref b), some (.int x1), some (.int x2), some (.int x3), some (.int x4), none, none], [.int x4], (hput h b (Bd.cells b B)), c, n)) rfl ?_
  refine x_ldan rfl rfl rfl (h_lt (i := 0) hb (by decide)) ?_
  refine x_getf rfl rfl (h_lt (i := 0) hb (by decide)) (hp_at (i := 0) hh rfl rfl) rfl ?_
  rcases ite_some hr with ⟨h1, hr⟩ | ⟨h1, hr⟩
  · refine x_ct rfl rfl (decide_eq_true h1) ?_
    refine x_fg (Lq.n (Lq.n (Lq.n (Lq.n (Lq.n (Lq.s (Lq.s Lq.nil))))))) ?_
    exact kx _ (Option.some.inj hr).symm
  · refine x_cf rfl rfl (decide_eq_false h1) ?_
    refine x_b 8 (S2 := (28, [some (.ref b), some (.int x1), some (.int (x2 ||| x3)), some (.int x3), some (.int x4), some (.int 0), some (.int 0)], [], (hput h b (Bd.cells b B)), c, n)) rfl ?_
    refine x_fg (Lq.s (Lq.s (Lq.s (Lq.s (Lq.s (Lq.s (Lq.s Lq.nil))))))) ?_
    obtain ⟨o11, h8, hr⟩ := bd_some hr
    refine x_lw (P := P_14_28 h b c n x1 (x2 ||| x3) x3 x4) (Q := fun x => Ex d am_M14 scr (PX_14_28 h b c n x1 (x2 ||| x3) x3 x4 x) res) (fun s o h1 ka kx => g_14_28 hd hb hh h1 ka kx) _ (0, 0, B) _ h8 ?_
    obtain ⟨v9, B10⟩ := o11
    show Ex d am_M14 scr (77, [some (.ref b), some (.int x1), some (.int (x2 ||| x3)), none, some (.int x4), some (.int v9), none], [], (hput h b (Bd.cells b B10)), c, n) res
    refine x_b 8 (S2 := (9, [some (.ref b), some (.int x1), some (.int (x2 ||| x3)), some (.int (v9 &&& ((x2 ||| x3) ^^^ (-1)))), some (.int (x4 + 1)), some (.int v9), none], [], (hput h b (Bd.cells b B10)), c, n)) rfl ?_
    refine x_fg (Lq.s (Lq.s (Lq.s (Lq.s (Lq.s (Lq.n (Lq.s Lq.nil))))))) ?_
    exact ka _ (Option.some.inj hr).symm
/-- PebbleProofs$Board.measureFrom(I)V -/
def F_14 (B : Bd) (x1 : Int32) : Option (Bd) :=
  (lw (G_14_9 x1) 200000 (0, (1 <<< (x1 &&& 31)), 0, B)).bind fun B13 =>
  some B13
theorem f_14 {d : Nat} (hd : 3 ≤ d) {scr : ASc} {res : ARe} {c n : Nat} {h : AHp} {b : Nat} (hb : b + 6 ≤ am_SB) (hh : b + 6 ≤ h.length) {B : Bd} {x1 : Int32} {o : Bd} (hr : F_14 B x1 = some o) (kr : res = (.inl (none), hput h b (Bd.cells b o), c, n)) : Ex d am_M14 scr (0, [some (.ref b), some (.int x1), none, none, none, none, none], [], (hput h b (Bd.cells b B)), c, n) res := by
  delta F_14 at hr
  refine x_b 8 (S2 := (9, [some (.ref b), some (.int x1), some (.int 0), some (.int (1 <<< (x1 &&& 31))), some (.int 0), none, none], [], (hput h b (Bd.cells b B)), c, n)) rfl ?_
  refine x_fg (Lq.s (Lq.s (Lq.s (Lq.s (Lq.s (Lq.s (Lq.s Lq.nil))))))) ?_
  obtain ⟨B13, h12, hr⟩ := bd_some hr
  refine x_lw (P := P_14_9 h b c n x1) (Q := fun x => Ex d am_M14 scr (PX_14_9 h b c n x1 x) res) (fun s o h1 ka kx => g_14_9 hd hb hh h1 ka kx) _ (0, (1 <<< (x1 &&& 31)), 0, B) _ h12 ?_
  show Ex d am_M14 scr (90, [none, none, none, none, none, none, none], [], (hput h b (Bd.cells b B13)), c, n) res
  cases hr
  rw [kr]
  exact x_ret rfl rfl rfl
theorem m_14 {h : AHp} {b : Nat} (hb : b + 6 ≤ am_SB) (hh : b + 6 ≤ h.length) {B : Bd} {x1 : Int32} {o : Bd} (hr : F_14 B x1 = some o) : Rn 4 14 [.ref b, .int x1] (hput h b (Bd.cells b B)) (.inl (none), hput h b (Bd.cells b o), 0, 0) :=
  x_meth (M := am_M14) rfl (show 2 ≤ 7 by decide) (f_14 (Nat.le_refl _) hb hh hr rfl)
abbrev P_13_2 (h : AHp) (b : Nat) (c n : Nat)  (s : Int32 × Bd) : ASt := (2, [some (.ref b), some (.int s.1)], [], (hput h b (Bd.cells b s.2)), c, n)
abbrev PX_13_2 (h : AHp) (b : Nat) (c n : Nat)  (s : Bd) : ASt := (21, [none, none], [], (hput h b (Bd.cells b s)), c, n)
def G_13_2  (s : Int32 × Bd) : Option ((Int32 × Bd) ⊕ (Bd)) := 
  match s with
  | (x1, B) =>
    if B.vertices ≤ x1 then
      some (.inr B)
    else
      (F_14 B x1).bind fun B3 =>
      some (.inl ((x1 + 1), B3))
theorem g_13_2 {d : Nat} (hd : 4 ≤ d) {scr : ASc} {res : ARe} {c n : Nat} {h : AHp} {b : Nat} (hb : b + 6 ≤ am_SB) (hh : b + 6 ≤ h.length)  {s : Int32 × Bd} {o : (Int32 × Bd) ⊕ (Bd)} (hr : G_13_2  s = some o) (ka : ∀ s, o = .inl s → Ex d am_M13 scr (P_13_2 h b c n  s) res) (kx : ∀ s, o = .inr s → Ex d am_M13 scr (PX_13_2 h b c n  s) res) : Ex d am_M13 scr (P_13_2 h b c n  s) res := by
  obtain ⟨x1, B⟩ := s
  delta G_13_2 at hr
  show Ex d am_M13 scr (2, [some (.ref b), some (.int x1)], [], (hput h b (Bd.cells b B)), c, n) res
  refine x_b 1 (S2 := (3, [some (.ref b), some (.int x1)], [.int x1], (hput h b (Bd.cells b B)), c, n)) rfl ?_
  refine x_ldan rfl rfl rfl (h_lt (i := 0) hb (by decide)) ?_
  refine x_getf rfl rfl (h_lt (i := 0) hb (by decide)) (hp_at (i := 0) hh rfl rfl) rfl ?_
  rcases ite_some hr with ⟨h1, hr⟩ | ⟨h1, hr⟩
  · refine x_ct rfl rfl (decide_eq_true h1) ?_
    refine x_fg (Lq.n (Lq.n Lq.nil)) ?_
    exact kx _ (Option.some.inj hr).symm
  · refine x_cf rfl rfl (decide_eq_false h1) ?_
    refine x_ldan rfl rfl rfl (h_lt (i := 0) hb (by decide)) ?_
    refine x_b 1 (S2 := (12, [some (.ref b), some (.int x1)], [.int x1, .ref b], (hput h b (Bd.cells b B)), c, n)) rfl ?_
    obtain ⟨B3, h2, hr⟩ := bd_some hr
    refine x_c0 (m_14 hb hh h2) rfl rfl rfl rfl (am_recv_v (h_lt (i := 0) hb (by decide)) (hp_at (i := 0) hh rfl rfl) rfl) (by omega) ?_
    refine x_b 2 (S2 := (2, [some (.ref b), some (.int (x1 + 1))], [], (hput h b (Bd.cells b B3)), c, n)) rfl ?_
    refine x_fg (Lq.s (Lq.s Lq.nil)) ?_
    exact ka _ (Option.some.inj hr).symm
/-- PebbleProofs$Board.measure()V -/
def F_13 (B : Bd) : Option (Bd) :=
  (lw (G_13_2 ) 200000 (0, B)).bind fun B5 =>
  some B5
theorem f_13 {d : Nat} (hd : 4 ≤ d) {scr : ASc} {res : ARe} {c n : Nat} {h : AHp} {b : Nat} (hb : b + 6 ≤ am_SB) (hh : b + 6 ≤ h.length) {B : Bd} {o : Bd} (hr : F_13 B = some o) (kr : res = (.inl (none), hput h b (Bd.cells b o), c, n)) : Ex d am_M13 scr (0, [some (.ref b), none], [], (hput h b (Bd.cells b B)), c, n) res := by
  delta F_13 at hr
  refine x_b 2 (S2 := (2, [some (.ref b), some (.int 0)], [], (hput h b (Bd.cells b B)), c, n)) rfl ?_
  refine x_fg (Lq.s (Lq.s Lq.nil)) ?_
  obtain ⟨B5, h4, hr⟩ := bd_some hr
  refine x_lw (P := P_13_2 h b c n ) (Q := fun x => Ex d am_M13 scr (PX_13_2 h b c n  x) res) (fun s o h1 ka kx => g_13_2 hd hb hh h1 ka kx) _ (0, B) _ h4 ?_
  show Ex d am_M13 scr (21, [none, none], [], (hput h b (Bd.cells b B5)), c, n) res
  cases hr
  rw [kr]
  exact x_ret rfl rfl rfl
theorem m_13 {h : AHp} {b : Nat} (hb : b + 6 ≤ am_SB) (hh : b + 6 ≤ h.length) {B : Bd} {o : Bd} (hr : F_13 B = some o) : Rn 5 13 [.ref b] (hput h b (Bd.cells b B)) (.inl (none), hput h b (Bd.cells b o), 0, 0) :=
  x_meth (M := am_M13) rfl (show 1 ≤ 2 by decide) (f_13 (Nat.le_refl _) hb hh hr rfl)
/-- PebbleProofs$Board.apart(II)I -/
def F_15 (B : Bd) (x1 : Int32) (x2 : Int32) : Option (Int32) :=
  (ix ((6 * x1) + x2) 36).bind fun i1 =>
  some (B.distances i1)
theorem f_15 {d : Nat} (hd : 1 ≤ d) {scr : ASc} {res : ARe} {c n : Nat} {H : AHp} {b : Nat} {B : Bd} {x1 : Int32} {x2 : Int32} (hR : Rg H b (Bd.cells b B)) {o : Int32} (hr : F_15 B x1 x2 = some o) (kr : res = (.inl (some (.int o)), H, c, n)) : Ex d am_M15 scr (0, [some (.ref b), some (.int x1), some (.int x2)], [], H, c, n) res := by
  delta F_15 at hr
  refine x_ldan rfl rfl rfl (hR.lt (i := 0) (show 0 < 6 by decide)) ?_
  refine x_getf rfl rfl (hR.lt (i := 0) (show 0 < 6 by decide)) (hR.at (i := 0) rfl) rfl ?_
  refine x_b 5 (S2 := (10, [some (.ref b), some (.int x1), some (.int x2)], [.int ((6 * x1) + x2), .ref (b + 2)], H, c, n)) rfl ?_
  obtain ⟨i1, h2, hr⟩ := bd_some hr
  refine x_iald rfl rfl (hR.lt (i := 2) (show 2 < 6 by decide)) (hR.at (i := 2) rfl) h2 ?_
  cases hr
  rw [kr]
  exact x_ret rfl rfl am_ret_i
theorem m_15 {H : AHp} {b : Nat} {B : Bd} {x1 : Int32} {x2 : Int32} (hR : Rg H b (Bd.cells b B)) {o : Int32} (hr : F_15 B x1 x2 = some o) : Rn 2 15 [.ref b, .int x1, .int x2] H (.inl (some (.int o)), H, 0, 0) :=
  x_meth (M := am_M15) rfl (show 3 ≤ 3 by decide) (f_15 (Nat.le_refl _) hR hr rfl)
abbrev P_16_8 (H : AHp) (b : Nat) (c n : Nat) (B : Bd) (x1 : Int32) (x2 : Int32) (s : Int32 × Int32) : ASt := (8, [some (.ref b), some (.int x1), some (.int x2), some (.int s.1), some (.int s.2)], [], H, c, n)
abbrev PX_16_8 (H : AHp) (b : Nat) (c n : Nat) (B : Bd) (x1 : Int32) (x2 : Int32) (s : Int32) : ASt := (44, [none, none, none, some (.int s), none], [], H, c, n)
def J_16_8_j38 (B : Bd) (x1 : Int32) (x2 : Int32) (x3 : Int32) (x4 : Int32) : Option ((Int32 × Int32) ⊕ (Int32)) :=
  some (.inl (x3, (x4 + 1)))
theorem j_16_8_j38 {d : Nat} (hd : 2 ≤ d) {scr : ASc} {res : ARe} {c n : Nat} {H : AHp} {b : Nat} {B : Bd} {x1 : Int32} {x2 : Int32} {x3 : Int32} {x4 : Int32} (hR : Rg H b (Bd.cells b B)) {o : (Int32 × Int32) ⊕ (Int32)} (hr : J_16_8_j38 B x1 x2 x3 x4 = some o) (ka : ∀ s, o = .inl s → Ex d am_M16 scr (P_16_8 H b c n B x1 x2 s) res) (kx : ∀ s, o = .inr s → Ex d am_M16 scr (PX_16_8 H b c n B x1 x2 s) res) : Ex d am_M16 scr (38, [some (.ref b), some (.int x1), some (.int x2), some (.int x3), some (.int x4)], [], H, c, n) res := by
  delta J_16_8_j38 at hr
  refine x_b 2 (S2 := (8, [some (.ref b), some (.int x1), some (.int x2), some (.int x3), some (.int (x4 + 1))], [], H, c, n)) rfl ?_
  refine x_fg (Lq.s (Lq.s (Lq.s (Lq.s (Lq.s Lq.nil))))) ?_
  exact ka _ (Option.some.inj hr).symm
def G_16_8 (B : Bd) (x1 : Int32) (x2 : Int32) (s : Int32 × Int32) : Option ((Int32 × Int32) ⊕ (Int32)) := 
  match s with
  | (x3, x4) =>
    if B.vertices ≤ x4 then
      some (.inr x3)
    else
      if ((x2 >>> (x4 &&& 31)) &&& 1) = 0 then
        J_16_8_j38 B x1 x2 x3 x4
      else
        (F_15 B x1 x4).bind fun v4 =>
        J_16_8_j38 B x1 x2 (imn x3 v4) x4
theorem g_16_8 {d : Nat} (hd : 2 ≤ d) {scr : ASc} {res : ARe} {c n : Nat} {H : AHp} {b : Nat} {B : Bd} {x1 : Int32} {x2 : Int32} (hR : Rg H b (Bd.cells b B)) {s : Int32 × Int32} {o : (Int32 × Int32) ⊕ (Int32)} (hr : G_16_8 B x1 x2 s = some o) (ka : ∀ s, o = .inl s → Ex d am_M16 scr (P_16_8 H b c n B x1 x2 s) res) (kx : ∀ s, o = .inr s → Ex d am_M16 scr (PX_16_8 H b c n B x1 x2 s) res) : Ex d am_M16 scr (P_16_8 H b c n B x1 x2 s) res := by
  obtain ⟨x3, x4⟩ := s
  delta G_16_8 at hr
  show Ex d am_M16 scr (8, [some (.ref b), some (.int x1), some (.int x2), some (.int x3), some (.int x4)], [], H, c, n) res
  refine x_b 1 (S2 := (10, [some (.ref b), some (.int x1), some (.int x2), some (.int x3), some (.int x4)], [.int x4], H, c, n)) rfl ?_
  refine x_ldan rfl rfl rfl (hR.lt (i := 0) (show 0 < 6 by decide)) ?_
  refine x_getf rfl rfl (hR.lt (i := 0) (show 0 < 6 by decide)) (hR.at (i := 0) rfl) rfl ?_
  rcases ite_some hr with ⟨h1, hr⟩ | ⟨h1, hr⟩
  · refine x_ct rfl rfl (decide_eq_true h1) ?_
    refine x_fg (Lq.n (Lq.n (Lq.n (Lq.s (Lq.n Lq.nil))))) ?_
    exact kx _ (Option.some.inj hr).symm
  · refine x_cf rfl rfl (decide_eq_false h1) ?_
    refine x_b 5 (S2 := (23, [some (.ref b), some (.int x1), some (.int x2), some (.int x3), some (.int x4)], [.int ((x2 >>> (x4 &&& 31)) &&& 1)], H, c, n)) rfl ?_
    rcases ite_some hr with ⟨h2, hr⟩ | ⟨h2, hr⟩
    · refine x_zt rfl rfl (decide_eq_true h2) ?_
      refine x_fg (Lq.s (Lq.s (Lq.s (Lq.s (Lq.s Lq.nil))))) ?_
      exact j_16_8_j38 hd hR hr ka kx
    · refine x_zf rfl rfl (decide_eq_false h2) ?_
      refine x_b 1 (S2 := (27, [some (.ref b), some (.int x1), some (.int x2), some (.int x3), some (.int x4)], [.int x3], H, c, n)) rfl ?_
      refine x_ldan rfl rfl rfl (hR.lt (i := 0) (show 0 < 6 by decide)) ?_
      refine x_b 2 (S2 := (31, [some (.ref b), some (.int x1), some (.int x2), some (.int x3), some (.int x4)], [.int x4, .int x1, .ref b, .int x3], H, c, n)) rfl ?_
      obtain ⟨v4, h3, hr⟩ := bd_some hr
      refine x_c0 (m_15 hR h3) rfl rfl rfl rfl (am_recv_v (hR.lt (i := 0) (show 0 < 6 by decide)) (hR.at (i := 0) rfl) rfl) (by omega) ?_
      refine x_b 2 (S2 := (38, [some (.ref b), some (.int x1), some (.int x2), some (.int (imn x3 v4)), some (.int x4)], [], H, c, n)) rfl ?_
      refine x_fg (Lq.s (Lq.s (Lq.s (Lq.s (Lq.s Lq.nil))))) ?_
      exact j_16_8_j38 hd hR hr ka kx
/-- PebbleProofs$Board.apartFromSet(II)I -/
def F_16 (B : Bd) (x1 : Int32) (x2 : Int32) : Option (Int32) :=
  (lw (G_16_8 B x1 x2) 200000 (B.vertices, 0)).bind fun v6 =>
  some v6
theorem f_16 {d : Nat} (hd : 2 ≤ d) {scr : ASc} {res : ARe} {c n : Nat} {H : AHp} {b : Nat} {B : Bd} {x1 : Int32} {x2 : Int32} (hR : Rg H b (Bd.cells b B)) {o : Int32} (hr : F_16 B x1 x2 = some o) (kr : res = (.inl (some (.int o)), H, c, n)) : Ex d am_M16 scr (0, [some (.ref b), some (.int x1), some (.int x2), none, none], [], H, c, n) res := by
  delta F_16 at hr
  refine x_ldan rfl rfl rfl (hR.lt (i := 0) (show 0 < 6 by decide)) ?_
  refine x_getf rfl rfl (hR.lt (i := 0) (show 0 < 6 by decide)) (hR.at (i := 0) rfl) rfl ?_
  refine x_b 3 (S2 := (8, [some (.ref b), some (.int x1), some (.int x2), some (.int B.vertices), some (.int 0)], [], H, c, n)) rfl ?_
  refine x_fg (Lq.s (Lq.s (Lq.s (Lq.s (Lq.s Lq.nil))))) ?_
  obtain ⟨v6, h5, hr⟩ := bd_some hr
  refine x_lw (P := P_16_8 H b c n B x1 x2) (Q := fun x => Ex d am_M16 scr (PX_16_8 H b c n B x1 x2 x) res) (fun s o h1 ka kx => g_16_8 hd hR h1 ka kx) _ (B.vertices, 0) _ h5 ?_
  show Ex d am_M16 scr (44, [none, none, none, some (.int v6), none], [], H, c, n) res
  refine x_b 1 (S2 := (45, [none, none, none, some (.int v6), none], [.int v6], H, c, n)) rfl ?_
  cases hr
  rw [kr]
  exact x_ret rfl rfl am_ret_i
theorem m_16 {H : AHp} {b : Nat} {B : Bd} {x1 : Int32} {x2 : Int32} (hR : Rg H b (Bd.cells b B)) {o : Int32} (hr : F_16 B x1 x2 = some o) : Rn 3 16 [.ref b, .int x1, .int x2] H (.inl (some (.int o)), H, 0, 0) :=
  x_meth (M := am_M16) rfl (show 3 ≤ 5 by decide) (f_16 (Nat.le_refl _) hR hr rfl)
abbrev P_17_4 (H : AHp) (b : Nat) (c n : Nat) (B : Bd) (x1 : Int32) (s : Int32 × Int32) : ASt := (4, [some (.ref b), some (.int x1), some (.int s.1), some (.int s.2)], [], H, c, n)
abbrev PX_17_4 (H : AHp) (b : Nat) (c n : Nat) (B : Bd) (x1 : Int32) (s : Int32) : ASt := (35, [none, none, some (.int s), none], [], H, c, n)
def J_17_4_j29 (B : Bd) (x1 : Int32) (x2 : Int32) (x3 : Int32) : Option ((Int32 × Int32) ⊕ (Int32)) :=
  some (.inl (x2, (x3 + 1)))
theorem j_17_4_j29 {d : Nat} (hd : 3 ≤ d) {scr : ASc} {res : ARe} {c n : Nat} {H : AHp} {b : Nat} {B : Bd} {x1 : Int32} {x2 : Int32} {x3 : Int32} (hR : Rg H b (Bd.cells b B)) {o : (Int32 × Int32) ⊕ (Int32)} (hr : J_17_4_j29 B x1 x2 x3 = some o) (ka : ∀ s, o = .inl s → Ex d am_M17 scr (P_17_4 H b c n B x1 s) res) (kx : ∀ s, o = .inr s → Ex d am_M17 scr (PX_17_4 H b c n B x1 s) res) : Ex d am_M17 scr (29, [some (.ref b), some (.int x1), some (.int x2), some (.int x3)], [], H, c, n) res := by
  delta J_17_4_j29 at hr
  refine x_b 2 (S2 := (4, [some (.ref b), some (.int x1), some (.int x2), some (.int (x3 + 1))], [], H, c, n)) rfl ?_
  refine x_fg (Lq.s (Lq.s (Lq.s (Lq.s Lq.nil)))) ?_
  exact ka _ (Option.some.inj hr).symm
def G_17_4 (B : Bd) (x1 : Int32) (s : Int32 × Int32) : Option ((Int32 × Int32) ⊕ (Int32)) := 
  match s with
  | (x2, x3) =>
    if B.vertices ≤ x3 then
      some (.inr x2)
    else
      (F_16 B x3 x1).bind fun v3 =>
      (F_16 B x2 x1).bind fun v5 =>
      if v3 ≤ v5 then
        J_17_4_j29 B x1 x2 x3
      else
        J_17_4_j29 B x1 x3 x3
theorem g_17_4 {d : Nat} (hd : 3 ≤ d) {scr : ASc} {res : ARe} {c n : Nat} {H : AHp} {b : Nat} {B : Bd} {x1 : Int32} (hR : Rg H b (Bd.cells b B)) {s : Int32 × Int32} {o : (Int32 × Int32) ⊕ (Int32)} (hr : G_17_4 B x1 s = some o) (ka : ∀ s, o = .inl s → Ex d am_M17 scr (P_17_4 H b c n B x1 s) res) (kx : ∀ s, o = .inr s → Ex d am_M17 scr (PX_17_4 H b c n B x1 s) res) : Ex d am_M17 scr (P_17_4 H b c n B x1 s) res := by
  obtain ⟨x2, x3⟩ := s
  delta G_17_4 at hr
  show Ex d am_M17 scr (4, [some (.ref b), some (.int x1), some (.int x2), some (.int x3)], [], H, c, n) res
  refine x_b 1 (S2 := (5, [some (.ref b), some (.int x1), some (.int x2), some (.int x3)], [.int x3], H, c, n)) rfl ?_
  refine x_ldan rfl rfl rfl (hR.lt (i := 0) (show 0 < 6 by decide)) ?_
  refine x_getf rfl rfl (hR.lt (i := 0) (show 0 < 6 by decide)) (hR.at (i := 0) rfl) rfl ?_
  rcases ite_some hr with ⟨h1, hr⟩ | ⟨h1, hr⟩
  · refine x_ct rfl rfl (decide_eq_true h1) ?_
    refine x_fg (Lq.n (Lq.n (Lq.s (Lq.n Lq.nil)))) ?_
    exact kx _ (Option.some.inj hr).symm
  · refine x_cf rfl rfl (decide_eq_false h1) ?_
    refine x_ldan rfl rfl rfl (hR.lt (i := 0) (show 0 < 6 by decide)) ?_
    refine x_b 2 (S2 := (15, [some (.ref b), some (.int x1), some (.int x2), some (.int x3)], [.int x1, .int x3, .ref b], H, c, n)) rfl ?_
    obtain ⟨v3, h2, hr⟩ := bd_some hr
    refine x_c0 (m_16 hR h2) rfl rfl rfl rfl (am_recv_v (hR.lt (i := 0) (show 0 < 6 by decide)) (hR.at (i := 0) rfl) rfl) (by omega) ?_
    refine x_ldan rfl rfl rfl (hR.lt (i := 0) (show 0 < 6 by decide)) ?_
    refine x_b 2 (S2 := (21, [some (.ref b), some (.int x1), some (.int x2), some (.int x3)], [.int x1, .int x2, .ref b, .int v3], H, c, n)) rfl ?_
    obtain ⟨v5, h4, hr⟩ := bd_some hr
    refine x_c0 (m_16 hR h4) rfl rfl rfl rfl (am_recv_v (hR.lt (i := 0) (show 0 < 6 by decide)) (hR.at (i := 0) rfl) rfl) (by omega) ?_
    rcases ite_some hr with ⟨h6, hr⟩ | ⟨h6, hr⟩
    · refine x_ct rfl rfl (decide_eq_true h6) ?_
      refine x_fg (Lq.s (Lq.s (Lq.s (Lq.s Lq.nil)))) ?_
      exact j_17_4_j29 hd hR hr ka kx
    · refine x_cf rfl rfl (decide_eq_false h6) ?_
      refine x_b 2 (S2 := (29, [some (.ref b), some (.int x1), some (.int x3), some (.int x3)], [], H, c, n)) rfl ?_
      refine x_fg (Lq.s (Lq.s (Lq.s (Lq.s Lq.nil)))) ?_
      exact j_17_4_j29 hd hR hr ka kx
/-- PebbleProofs$Board.farthestFrom(I)I -/
def F_17 (B : Bd) (x1 : Int32) : Option (Int32) :=
  (lw (G_17_4 B x1) 200000 (0, 1)).bind fun v8 =>
  some v8
theorem f_17 {d : Nat} (hd : 3 ≤ d) {scr : ASc} {res : ARe} {c n : Nat} {H : AHp} {b : Nat} {B : Bd} {x1 : Int32} (hR : Rg H b (Bd.cells b B)) {o : Int32} (hr : F_17 B x1 = some o) (kr : res = (.inl (some (.int o)), H, c, n)) : Ex d am_M17 scr (0, [some (.ref b), some (.int x1), none, none], [], H, c, n) res := by
  delta F_17 at hr
  refine x_b 4 (S2 := (4, [some (.ref b), some (.int x1), some (.int 0), some (.int 1)], [], H, c, n)) rfl ?_
  refine x_fg (Lq.s (Lq.s (Lq.s (Lq.s Lq.nil)))) ?_
  obtain ⟨v8, h7, hr⟩ := bd_some hr
  refine x_lw (P := P_17_4 H b c n B x1) (Q := fun x => Ex d am_M17 scr (PX_17_4 H b c n B x1 x) res) (fun s o h1 ka kx => g_17_4 hd hR h1 ka kx) _ (0, 1) _ h7 ?_
  show Ex d am_M17 scr (35, [none, none, some (.int v8), none], [], H, c, n) res
  refine x_b 1 (S2 := (36, [none, none, some (.int v8), none], [.int v8], H, c, n)) rfl ?_
  cases hr
  rw [kr]
  exact x_ret rfl rfl am_ret_i
theorem m_17 {H : AHp} {b : Nat} {B : Bd} {x1 : Int32} (hR : Rg H b (Bd.cells b B)) {o : Int32} (hr : F_17 B x1 = some o) : Rn 4 17 [.ref b, .int x1] H (.inl (some (.int o)), H, 0, 0) :=
  x_meth (M := am_M17) rfl (show 2 ≤ 4 by decide) (f_17 (Nat.le_refl _) hR hr rfl)
abbrev P_18_4 (H : AHp) (b : Nat) (c n : Nat) (B : Bd) (s : Int32 × Int32) : ASt := (4, [some (.ref b), some (.int s.1), some (.int s.2), none], [], H, c, n)
abbrev PX_18_4 (H : AHp) (b : Nat) (c n : Nat) (B : Bd) (s : Int32) : ASt := (42, [none, some (.int s), none, none], [], H, c, n)
abbrev P_18_14 (H : AHp) (b : Nat) (c n : Nat) (B : Bd) (x2 : Int32) (s : Int32 × Int32) : ASt := (14, [some (.ref b), some (.int s.1), some (.int x2), some (.int s.2)], [], H, c, n)
abbrev PX_18_14 (H : AHp) (b : Nat) (c n : Nat) (B : Bd) (x2 : Int32) (s : Int32) : ASt := (36, [some (.ref b), some (.int s), some (.int x2), none], [], H, c, n)
def G_18_14 (B : Bd) (x2 : Int32) (s : Int32 × Int32) : Option ((Int32 × Int32) ⊕ (Int32)) := 
  match s with
  | (x1, x3) =>
    if x2 ≤ x3 then
      some (.inr x1)
    else
      (F_15 B x2 x3).bind fun v4 =>
      some (.inl ((imx x1 v4), (x3 + 1)))
theorem g_18_14 {d : Nat} (hd : 2 ≤ d) {scr : ASc} {res : ARe} {c n : Nat} {H : AHp} {b : Nat} {B : Bd} {x2 : Int32} (hR : Rg H b (Bd.cells b B)) {s : Int32 × Int32} {o : (Int32 × Int32) ⊕ (Int32)} (hr : G_18_14 B x2 s = some o) (ka : ∀ s, o = .inl s → Ex d am_M18 scr (P_18_14 H b c n B x2 s) res) (kx : ∀ s, o = .inr s → Ex d am_M18 scr (PX_18_14 H b c n B x2 s) res) : Ex d am_M18 scr (P_18_14 H b c n B x2 s) res := by
  obtain ⟨x1, x3⟩ := s
  delta G_18_14 at hr
  show Ex d am_M18 scr (14, [some (.ref b), some (.int x1), some (.int x2), some (.int x3)], [], H, c, n) res
  refine x_b 2 (S2 := (16, [some (.ref b), some (.int x1), some (.int x2), some (.int x3)], [.int x2, .int x3], H, c, n)) rfl ?_
  rcases ite_some hr with ⟨h2, hr⟩ | ⟨h2, hr⟩
  · refine x_ct rfl rfl (decide_eq_true h2) ?_
    refine x_fg (Lq.s (Lq.s (Lq.s (Lq.n Lq.nil)))) ?_
    exact kx _ (Option.some.inj hr).symm
  · refine x_cf rfl rfl (decide_eq_false h2) ?_
    refine x_b 1 (S2 := (20, [some (.ref b), some (.int x1), some (.int x2), some (.int x3)], [.int x1], H, c, n)) rfl ?_
    refine x_ldan rfl rfl rfl (hR.lt (i := 0) (show 0 < 6 by decide)) ?_
    refine x_b 2 (S2 := (23, [some (.ref b), some (.int x1), some (.int x2), some (.int x3)], [.int x3, .int x2, .ref b, .int x1], H, c, n)) rfl ?_
    obtain ⟨v4, h3, hr⟩ := bd_some hr
    refine x_c0 (m_15 hR h3) rfl rfl rfl rfl (am_recv_v (hR.lt (i := 0) (show 0 < 6 by decide)) (hR.at (i := 0) rfl) rfl) (by omega) ?_
    refine x_b 4 (S2 := (14, [some (.ref b), some (.int (imx x1 v4)), some (.int x2), some (.int (x3 + 1))], [], H, c, n)) rfl ?_
    refine x_fg (Lq.s (Lq.s (Lq.s (Lq.s Lq.nil)))) ?_
    exact ka _ (Option.some.inj hr).symm
def G_18_4 (B : Bd) (s : Int32 × Int32) : Option ((Int32 × Int32) ⊕ (Int32)) := 
  match s with
  | (x1, x2) =>
    if B.vertices ≤ x2 then
      some (.inr x1)
    else
      (lw (G_18_14 B x2) 200000 (x1, 0)).bind fun v6 =>
      some (.inl (v6, (x2 + 1)))
theorem g_18_4 {d : Nat} (hd : 2 ≤ d) {scr : ASc} {res : ARe} {c n : Nat} {H : AHp} {b : Nat} {B : Bd} (hR : Rg H b (Bd.cells b B)) {s : Int32 × Int32} {o : (Int32 × Int32) ⊕ (Int32)} (hr : G_18_4 B s = some o) (ka : ∀ s, o = .inl s → Ex d am_M18 scr (P_18_4 H b c n B s) res) (kx : ∀ s, o = .inr s → Ex d am_M18 scr (PX_18_4 H b c n B s) res) : Ex d am_M18 scr (P_18_4 H b c n B s) res := by
  obtain ⟨x1, x2⟩ := s
  delta G_18_4 at hr
  show Ex d am_M18 scr (4, [some (.ref b), some (.int x1), some (.int x2), none], [], H, c, n) res
  refine x_b 1 (S2 := (5, [some (.ref b), some (.int x1), some (.int x2), none], [.int x2], H, c, n)) rfl ?_
  refine x_ldan rfl rfl rfl (hR.lt (i := 0) (show 0 < 6 by decide)) ?_
  refine x_getf rfl rfl (hR.lt (i := 0) (show 0 < 6 by decide)) (hR.at (i := 0) rfl) rfl ?_
  rcases ite_some hr with ⟨h1, hr⟩ | ⟨h1, hr⟩
  · refine x_ct rfl rfl (decide_eq_true h1) ?_
    refine x_fg (Lq.n (Lq.s (Lq.n (Lq.s Lq.nil)))) ?_
    exact kx _ (Option.some.inj hr).symm
  · refine x_cf rfl rfl (decide_eq_false h1) ?_
    refine x_b 2 (S2 := (14, [some (.ref b), some (.int x1), some (.int x2), some (.int 0)], [], H, c, n)) rfl ?_
    refine x_fg (Lq.s (Lq.s (Lq.s (Lq.s Lq.nil)))) ?_
    obtain ⟨v6, h5, hr⟩ := bd_some hr
    refine x_lw (P := P_18_14 H b c n B x2) (Q := fun x => Ex d am_M18 scr (PX_18_14 H b c n B x2 x) res) (fun s o h1 ka kx => g_18_14 hd hR h1 ka kx) _ (x1, 0) _ h5 ?_
    show Ex d am_M18 scr (36, [some (.ref b), some (.int v6), some (.int x2), none], [], H, c, n) res
    refine x_b 2 (S2 := (4, [some (.ref b), some (.int v6), some (.int (x2 + 1)), none], [], H, c, n)) rfl ?_
    refine x_fg (Lq.s (Lq.s (Lq.s (Lq.s Lq.nil)))) ?_
    exact ka _ (Option.some.inj hr).symm
/-- PebbleProofs$Board.diameter()I -/
def F_18 (B : Bd) : Option (Int32) :=
  (lw (G_18_4 B) 200000 (0, 0)).bind fun v9 =>
  some v9
theorem f_18 {d : Nat} (hd : 2 ≤ d) {scr : ASc} {res : ARe} {c n : Nat} {H : AHp} {b : Nat} {B : Bd} (hR : Rg H b (Bd.cells b B)) {o : Int32} (hr : F_18 B = some o) (kr : res = (.inl (some (.int o)), H, c, n)) : Ex d am_M18 scr (0, [some (.ref b), none, none, none], [], H, c, n) res := by
  delta F_18 at hr
  refine x_b 4 (S2 := (4, [some (.ref b), some (.int 0), some (.int 0), none], [], H, c, n)) rfl ?_
  refine x_fg (Lq.s (Lq.s (Lq.s (Lq.s Lq.nil)))) ?_
  obtain ⟨v9, h8, hr⟩ := bd_some hr
  refine x_lw (P := P_18_4 H b c n B) (Q := fun x => Ex d am_M18 scr (PX_18_4 H b c n B x) res) (fun s o h1 ka kx => g_18_4 hd hR h1 ka kx) _ (0, 0) _ h8 ?_
  show Ex d am_M18 scr (42, [none, some (.int v9), none, none], [], H, c, n) res
  refine x_b 1 (S2 := (43, [none, some (.int v9), none, none], [.int v9], H, c, n)) rfl ?_
  cases hr
  rw [kr]
  exact x_ret rfl rfl am_ret_i
theorem m_18 {H : AHp} {b : Nat} {B : Bd} (hR : Rg H b (Bd.cells b B)) {o : Int32} (hr : F_18 B = some o) : Rn 3 18 [.ref b] H (.inl (some (.int o)), H, 0, 0) :=
  x_meth (M := am_M18) rfl (show 1 ≤ 4 by decide) (f_18 (Nat.le_refl _) hR hr rfl)
abbrev P_20_5 (H : AHp) (b : Nat) (c n : Nat) (B : Bd) (x1 : Int32) (x2 : Int32) (s : Int32 × Int32) : ASt := (5, [some (.ref b), some (.int x1), some (.int x2), some (.int s.1), some (.int s.2)], [], H, c, n)
abbrev PX_20_5 (H : AHp) (b : Nat) (c n : Nat) (B : Bd) (x1 : Int32) (x2 : Int32) (s : Int32) : ASt := (51, [none, none, none, some (.int s), none], [], H, c, n)
def J_20_5_j45 (B : Bd) (x1 : Int32) (x2 : Int32) (x3 : Int32) (x4 : Int32) : Option ((Int32 × Int32) ⊕ (Int32)) :=
  some (.inl (x3, (x4 + 1)))
theorem j_20_5_j45 {d : Nat} (hd : 2 ≤ d) {scr : ASc} {res : ARe} {c n : Nat} {H : AHp} {b : Nat} {B : Bd} {x1 : Int32} {x2 : Int32} {x3 : Int32} {x4 : Int32} (hR : Rg H b (Bd.cells b B)) {o : (Int32 × Int32) ⊕ (Int32)} (hr : J_20_5_j45 B x1 x2 x3 x4 = some o) (ka : ∀ s, o = .inl s → Ex d am_M20 scr (P_20_5 H b c n B x1 x2 s) res) (kx : ∀ s, o = .inr s → Ex d am_M20 scr (PX_20_5 H b c n B x1 x2 s) res) : Ex d am_M20 scr (45, [some (.ref b), some (.int x1), some (.int x2), some (.int x3), some (.int x4)], [], H, c, n) res := by
  delta J_20_5_j45 at hr
  refine x_b 2 (S2 := (5, [some (.ref b), some (.int x1), some (.int x2), some (.int x3), some (.int (x4 + 1))], [], H, c, n)) rfl ?_
  refine x_fg (Lq.s (Lq.s (Lq.s (Lq.s (Lq.s Lq.nil))))) ?_
  exact ka _ (Option.some.inj hr).symm
def G_20_5 (B : Bd) (x1 : Int32) (x2 : Int32) (s : Int32 × Int32) : Option ((Int32 × Int32) ⊕ (Int32)) := 
  match s with
  | (x3, x4) =>
    if B.vertices ≤ x4 then
      some (.inr x3)
    else
      (F_15 B x1 x4).bind fun v3 =>
      (F_15 B x4 x2).bind fun v5 =>
      (F_15 B x1 x2).bind fun v7 =>
      if ¬ (v3 + v5) = v7 then
        J_20_5_j45 B x1 x2 x3 x4
      else
        J_20_5_j45 B x1 x2 (x3 ||| (1 <<< (x4 &&& 31))) x4
theorem g_20_5 {d : Nat} (hd : 2 ≤ d) {scr : ASc} {res : ARe} {c n : Nat} {H : AHp} {b : Nat} {B : Bd} {x1 : Int32} {x2 : Int32} (hR : Rg H b (Bd.cells b B)) {s : Int32 × Int32} {o : (Int32 × Int32) ⊕ (Int32)} (hr : G_20_5 B x1 x2 s = some o) (ka : ∀ s, o = .inl s → Ex d am_M20 scr (P_20_5 H b c n B x1 x2 s) res) (kx : ∀ s, o = .inr s → Ex d am_M20 scr (PX_20_5 H b c n B x1 x2 s) res) : Ex d am_M20 scr (P_20_5 H b c n B x1 x2 s) res := by
  obtain ⟨x3, x4⟩ := s
  delta G_20_5 at hr
  show Ex d am_M20 scr (5, [some (.ref b), some (.int x1), some (.int x2), some (.int x3), some (.int x4)], [], H, c, n) res
  refine x_b 1 (S2 := (7, [some (.ref b), some (.int x1), some (.int x2), some (.int x3), some (.int x4)], [.int x4], H, c, n)) rfl ?_
  refine x_ldan rfl rfl rfl (hR.lt (i := 0) (show 0 < 6 by decide)) ?_
  refine x_getf rfl rfl (hR.lt (i := 0) (show 0 < 6 by decide)) (hR.at (i := 0) rfl) rfl ?_
  rcases ite_some hr with ⟨h1, hr⟩ | ⟨h1, hr⟩
  · refine x_ct rfl rfl (decide_eq_true h1) ?_
    refine x_fg (Lq.n (Lq.n (Lq.n (Lq.s (Lq.n Lq.nil))))) ?_
    exact kx _ (Option.some.inj hr).symm
  · refine x_cf rfl rfl (decide_eq_false h1) ?_
    refine x_ldan rfl rfl rfl (hR.lt (i := 0) (show 0 < 6 by decide)) ?_
    refine x_b 2 (S2 := (18, [some (.ref b), some (.int x1), some (.int x2), some (.int x3), some (.int x4)], [.int x4, .int x1, .ref b], H, c, n)) rfl ?_
    obtain ⟨v3, h2, hr⟩ := bd_some hr
    refine x_c0 (m_15 hR h2) rfl rfl rfl rfl (am_recv_v (hR.lt (i := 0) (show 0 < 6 by decide)) (hR.at (i := 0) rfl) rfl) (by omega) ?_
    refine x_ldan rfl rfl rfl (hR.lt (i := 0) (show 0 < 6 by decide)) ?_
    refine x_b 2 (S2 := (25, [some (.ref b), some (.int x1), some (.int x2), some (.int x3), some (.int x4)], [.int x2, .int x4, .ref b, .int v3], H, c, n)) rfl ?_
    obtain ⟨v5, h4, hr⟩ := bd_some hr
    refine x_c0 (m_15 hR h4) rfl rfl rfl rfl (am_recv_v (hR.lt (i := 0) (show 0 < 6 by decide)) (hR.at (i := 0) rfl) rfl) (by omega) ?_
    refine x_b 1 (S2 := (29, [some (.ref b), some (.int x1), some (.int x2), some (.int x3), some (.int x4)], [.int (v3 + v5)], H, c, n)) rfl ?_
    refine x_ldan rfl rfl rfl (hR.lt (i := 0) (show 0 < 6 by decide)) ?_
    refine x_b 2 (S2 := (32, [some (.ref b), some (.int x1), some (.int x2), some (.int x3), some (.int x4)], [.int x2, .int x1, .ref b, .int (v3 + v5)], H, c, n)) rfl ?_
    obtain ⟨v7, h6, hr⟩ := bd_some hr
    refine x_c0 (m_15 hR h6) rfl rfl rfl rfl (am_recv_v (hR.lt (i := 0) (show 0 < 6 by decide)) (hR.at (i := 0) rfl) rfl) (by omega) ?_
    rcases ite_some hr with ⟨h8, hr⟩ | ⟨h8, hr⟩
    · refine x_ct rfl rfl (decide_eq_true h8) ?_
      refine x_fg (Lq.s (Lq.s (Lq.s (Lq.s (Lq.s Lq.nil))))) ?_
      exact j_20_5_j45 hd hR hr ka kx
    · refine x_cf rfl rfl (decide_eq_false h8) ?_
      refine x_b 6 (S2 := (45, [some (.ref b), some (.int x1), some (.int x2), some (.int (x3 ||| (1 <<< (x4 &&& 31)))), some (.int x4)], [], H, c, n)) rfl ?_
      refine x_fg (Lq.s (Lq.s (Lq.s (Lq.s (Lq.s Lq.nil))))) ?_
      exact j_20_5_j45 hd hR hr ka kx
/-- PebbleProofs$Board.pathBetween(II)I -/
def F_20 (B : Bd) (x1 : Int32) (x2 : Int32) : Option (Int32) :=
  (lw (G_20_5 B x1 x2) 200000 (0, 0)).bind fun v10 =>
  some v10
theorem f_20 {d : Nat} (hd : 2 ≤ d) {scr : ASc} {res : ARe} {c n : Nat} {H : AHp} {b : Nat} {B : Bd} {x1 : Int32} {x2 : Int32} (hR : Rg H b (Bd.cells b B)) {o : Int32} (hr : F_20 B x1 x2 = some o) (kr : res = (.inl (some (.int o)), H, c, n)) : Ex d am_M20 scr (0, [some (.ref b), some (.int x1), some (.int x2), none, none], [], H, c, n) res := by
  delta F_20 at hr
  refine x_b 4 (S2 := (5, [some (.ref b), some (.int x1), some (.int x2), some (.int 0), some (.int 0)], [], H, c, n)) rfl ?_
  refine x_fg (Lq.s (Lq.s (Lq.s (Lq.s (Lq.s Lq.nil))))) ?_
  obtain ⟨v10, h9, hr⟩ := bd_some hr
  refine x_lw (P := P_20_5 H b c n B x1 x2) (Q := fun x => Ex d am_M20 scr (PX_20_5 H b c n B x1 x2 x) res) (fun s o h1 ka kx => g_20_5 hd hR h1 ka kx) _ (0, 0) _ h9 ?_
  show Ex d am_M20 scr (51, [none, none, none, some (.int v10), none], [], H, c, n) res
  refine x_b 1 (S2 := (52, [none, none, none, some (.int v10), none], [.int v10], H, c, n)) rfl ?_
  cases hr
  rw [kr]
  exact x_ret rfl rfl am_ret_i
theorem m_20 {H : AHp} {b : Nat} {B : Bd} {x1 : Int32} {x2 : Int32} (hR : Rg H b (Bd.cells b B)) {o : Int32} (hr : F_20 B x1 x2 = some o) : Rn 3 20 [.ref b, .int x1, .int x2] H (.inl (some (.int o)), H, 0, 0) :=
  x_meth (M := am_M20) rfl (show 3 ≤ 5 by decide) (f_20 (Nat.le_refl _) hR hr rfl)
abbrev P_19_9 (H : AHp) (b : Nat) (c n : Nat) (B : Bd) (x1 : Int32) (s : Int32 × Int32 × Int32) : ASt := (9, [some (.ref b), some (.int x1), some (.int s.1), some (.int s.2.1), some (.int s.2.2), none], [], H, c, n)
abbrev PX_19_9 (H : AHp) (b : Nat) (c n : Nat) (B : Bd) (x1 : Int32) (s : Int32) : ASt := (55, [none, none, none, some (.int s), none, none], [], H, c, n)
def G_19_9 (B : Bd) (x1 : Int32) (s : Int32 × Int32 × Int32) : Option ((Int32 × Int32 × Int32) ⊕ (Int32)) := 
  match s with
  | (x2, x3, x4) =>
    if B.vertices ≤ x4 then
      some (.inr x3)
    else
      (F_17 B x2).bind fun v3 =>
      (F_16 B v3 x2).bind fun v5 =>
      (F_20 B x1 v3).bind fun v7 =>
      some (.inl ((x2 ||| v7), (x3 + ((1 <<< (v5 &&& 31)) - 1)), (x4 + 1)))
theorem g_19_9 {d : Nat} (hd : 4 ≤ d) {scr : ASc} {res : ARe} {c n : Nat} {H : AHp} {b : Nat} {B : Bd} {x1 : Int32} (hR : Rg H b (Bd.cells b B)) {s : Int32 × Int32 × Int32} {o : (Int32 × Int32 × Int32) ⊕ (Int32)} (hr : G_19_9 B x1 s = some o) (ka : ∀ s, o = .inl s → Ex d am_M19 scr (P_19_9 H b c n B x1 s) res) (kx : ∀ s, o = .inr s → Ex d am_M19 scr (PX_19_9 H b c n B x1 s) res) : Ex d am_M19 scr (P_19_9 H b c n B x1 s) res := by
  obtain ⟨x2, x3, x4⟩ := s
  delta G_19_9 at hr
  show Ex d am_M19 scr (9, [some (.ref b), some (.int x1), some (.int x2), some (.int x3), some (.int x4), none], [], H, c, n) res
  refine x_b 1 (S2 := (11, [some (.ref b), some (.int x1), some (.int x2), some (.int x3), some (.int x4), none], [.int x4], H, c, n)) rfl ?_
  refine x_ldan rfl rfl rfl (hR.lt (i := 0) (show 0 < 6 by decide)) ?_
  refine x_getf rfl rfl (hR.lt (i := 0) (show 0 < 6 by decide)) (hR.at (i := 0) rfl) rfl ?_
  rcases ite_some hr with ⟨h1, hr⟩ | ⟨h1, hr⟩
  · refine x_ct rfl rfl (decide_eq_true h1) ?_
    refine x_fg (Lq.n (Lq.n (Lq.n (Lq.s (Lq.n (Lq.s Lq.nil)))))) ?_
    exact kx _ (Option.some.inj hr).symm
  · refine x_cf rfl rfl (decide_eq_false h1) ?_
    refine x_ldan rfl rfl rfl (hR.lt (i := 0) (show 0 < 6 by decide)) ?_
    refine x_b 1 (S2 := (20, [some (.ref b), some (.int x1), some (.int x2), some (.int x3), some (.int x4), none], [.int x2, .ref b], H, c, n)) rfl ?_
    obtain ⟨v3, h2, hr⟩ := bd_some hr
    refine x_c0 (m_17 hR h2) rfl rfl rfl rfl (am_recv_v (hR.lt (i := 0) (show 0 < 6 by decide)) (hR.at (i := 0) rfl) rfl) (by omega) ?_
    refine x_b 3 (S2 := (27, [some (.ref b), some (.int x1), some (.int x2), some (.int x3), some (.int x4), some (.int v3)], [.int 1, .int x3], H, c, n)) rfl ?_
    refine x_ldan rfl rfl rfl (hR.lt (i := 0) (show 0 < 6 by decide)) ?_
    refine x_b 2 (S2 := (31, [some (.ref b), some (.int x1), some (.int x2), some (.int x3), some (.int x4), some (.int v3)], [.int x2, .int v3, .ref b, .int 1, .int x3], H, c, n)) rfl ?_
    obtain ⟨v5, h4, hr⟩ := bd_some hr
    refine x_c0 (m_16 hR h4) rfl rfl rfl rfl (am_recv_v (hR.lt (i := 0) (show 0 < 6 by decide)) (hR.at (i := 0) rfl) rfl) (by omega) ?_
    refine x_b 6 (S2 := (40, [some (.ref b), some (.int x1), some (.int x2), some (.int (x3 + ((1 <<< (v5 &&& 31)) - 1))), some (.int x4), some (.int v3)], [.int x2], H, c, n)) rfl ?_
    refine x_ldan rfl rfl rfl (hR.lt (i := 0) (show 0 < 6 by decide)) ?_
    refine x_b 2 (S2 := (44, [some (.ref b), some (.int x1), some (.int x2), some (.int (x3 + ((1 <<< (v5 &&& 31)) - 1))), some (.int x4), some (.int v3)], [.int v3, .int x1, .ref b, .int x2], H, c, n)) rfl ?_
    obtain ⟨v7, h6, hr⟩ := bd_some hr
    refine x_c0 (m_20 hR h6) rfl rfl rfl rfl (am_recv_v (hR.lt (i := 0) (show 0 < 6 by decide)) (hR.at (i := 0) rfl) rfl) (by omega) ?_
    refine x_b 4 (S2 := (9, [some (.ref b), some (.int x1), some (.int (x2 ||| v7)), some (.int (x3 + ((1 <<< (v5 &&& 31)) - 1))), some (.int (x4 + 1)), some (.int v3)], [], H, c, n)) rfl ?_
    refine x_fg (Lq.s (Lq.s (Lq.s (Lq.s (Lq.s (Lq.n Lq.nil)))))) ?_
    exact ka _ (Option.some.inj hr).symm
/-- PebbleProofs$Board.numberByPaths(I)I -/
def F_19 (B : Bd) (x1 : Int32) : Option (Int32) :=
  (lw (G_19_9 B x1) 200000 ((1 <<< (x1 &&& 31)), 1, 1)).bind fun v9 =>
  some v9
theorem f_19 {d : Nat} (hd : 4 ≤ d) {scr : ASc} {res : ARe} {c n : Nat} {H : AHp} {b : Nat} {B : Bd} {x1 : Int32} (hR : Rg H b (Bd.cells b B)) {o : Int32} (hr : F_19 B x1 = some o) (kr : res = (.inl (some (.int o)), H, c, n)) : Ex d am_M19 scr (0, [some (.ref b), some (.int x1), none, none, none, none], [], H, c, n) res := by
  delta F_19 at hr
  refine x_b 8 (S2 := (9, [some (.ref b), some (.int x1), some (.int (1 <<< (x1 &&& 31))), some (.int 1), some (.int 1), none], [], H, c, n)) rfl ?_
  refine x_fg (Lq.s (Lq.s (Lq.s (Lq.s (Lq.s (Lq.s Lq.nil)))))) ?_
  obtain ⟨v9, h8, hr⟩ := bd_some hr
  refine x_lw (P := P_19_9 H b c n B x1) (Q := fun x => Ex d am_M19 scr (PX_19_9 H b c n B x1 x) res) (fun s o h1 ka kx => g_19_9 hd hR h1 ka kx) _ ((1 <<< (x1 &&& 31)), 1, 1) _ h8 ?_
  show Ex d am_M19 scr (55, [none, none, none, some (.int v9), none, none], [], H, c, n) res
  refine x_b 1 (S2 := (56, [none, none, none, some (.int v9), none, none], [.int v9], H, c, n)) rfl ?_
  cases hr
  rw [kr]
  exact x_ret rfl rfl am_ret_i
theorem m_19 {H : AHp} {b : Nat} {B : Bd} {x1 : Int32} (hR : Rg H b (Bd.cells b B)) {o : Int32} (hr : F_19 B x1 = some o) : Rn 5 19 [.ref b, .int x1] H (.inl (some (.int o)), H, 0, 0) :=
  x_meth (M := am_M19) rfl (show 2 ≤ 6 by decide) (f_19 (Nat.le_refl _) hR hr rfl)
abbrev P_21_4 (H : AHp) (b : Nat) (c n : Nat) (B : Bd) (x1 : Int32) (s : Int32 × Int32) : ASt := (4, [some (.ref b), some (.int x1), some (.int s.1), some (.int s.2)], [], H, c, n)
abbrev PX_21_4 (H : AHp) (b : Nat) (c n : Nat) (B : Bd) (x1 : Int32) (s : Int32) : ASt := (29, [none, none, some (.int s), none], [], H, c, n)
def G_21_4 (B : Bd) (x1 : Int32) (s : Int32 × Int32) : Option ((Int32 × Int32) ⊕ (Int32)) := 
  match s with
  | (x2, x3) =>
    if B.vertices ≤ x3 then
      some (.inr x2)
    else
      (F_15 B x1 x3).bind fun v3 =>
      some (.inl ((x2 + (1 <<< (v3 &&& 31))), (x3 + 1)))
theorem g_21_4 {d : Nat} (hd : 2 ≤ d) {scr : ASc} {res : ARe} {c n : Nat} {H : AHp} {b : Nat} {B : Bd} {x1 : Int32} (hR : Rg H b (Bd.cells b B)) {s : Int32 × Int32} {o : (Int32 × Int32) ⊕ (Int32)} (hr : G_21_4 B x1 s = some o) (ka : ∀ s, o = .inl s → Ex d am_M21 scr (P_21_4 H b c n B x1 s) res) (kx : ∀ s, o = .inr s → Ex d am_M21 scr (PX_21_4 H b c n B x1 s) res) : Ex d am_M21 scr (P_21_4 H b c n B x1 s) res := by
  obtain ⟨x2, x3⟩ := s
  delta G_21_4 at hr
  show Ex d am_M21 scr (4, [some (.ref b), some (.int x1), some (.int x2), some (.int x3)], [], H, c, n) res
  refine x_b 1 (S2 := (5, [some (.ref b), some (.int x1), some (.int x2), some (.int x3)], [.int x3], H, c, n)) rfl ?_
  refine x_ldan rfl rfl rfl (hR.lt (i := 0) (show 0 < 6 by decide)) ?_
  refine x_getf rfl rfl (hR.lt (i := 0) (show 0 < 6 by decide)) (hR.at (i := 0) rfl) rfl ?_
  rcases ite_some hr with ⟨h1, hr⟩ | ⟨h1, hr⟩
  · refine x_ct rfl rfl (decide_eq_true h1) ?_
    refine x_fg (Lq.n (Lq.n (Lq.s (Lq.n Lq.nil)))) ?_
    exact kx _ (Option.some.inj hr).symm
  · refine x_cf rfl rfl (decide_eq_false h1) ?_
    refine x_b 2 (S2 := (14, [some (.ref b), some (.int x1), some (.int x2), some (.int x3)], [.int 1, .int x2], H, c, n)) rfl ?_
    refine x_ldan rfl rfl rfl (hR.lt (i := 0) (show 0 < 6 by decide)) ?_
    refine x_b 2 (S2 := (17, [some (.ref b), some (.int x1), some (.int x2), some (.int x3)], [.int x3, .int x1, .ref b, .int 1, .int x2], H, c, n)) rfl ?_
    obtain ⟨v3, h2, hr⟩ := bd_some hr
    refine x_c0 (m_15 hR h2) rfl rfl rfl rfl (am_recv_v (hR.lt (i := 0) (show 0 < 6 by decide)) (hR.at (i := 0) rfl) rfl) (by omega) ?_
    refine x_b 5 (S2 := (4, [some (.ref b), some (.int x1), some (.int (x2 + (1 <<< (v3 &&& 31)))), some (.int (x3 + 1))], [], H, c, n)) rfl ?_
    refine x_fg (Lq.s (Lq.s (Lq.s (Lq.s Lq.nil)))) ?_
    exact ka _ (Option.some.inj hr).symm
/-- PebbleProofs$Board.stackFor(I)I -/
def F_21 (B : Bd) (x1 : Int32) : Option (Int32) :=
  (lw (G_21_4 B x1) 200000 (0, 0)).bind fun v5 =>
  some v5
theorem f_21 {d : Nat} (hd : 2 ≤ d) {scr : ASc} {res : ARe} {c n : Nat} {H : AHp} {b : Nat} {B : Bd} {x1 : Int32} (hR : Rg H b (Bd.cells b B)) {o : Int32} (hr : F_21 B x1 = some o) (kr : res = (.inl (some (.int o)), H, c, n)) : Ex d am_M21 scr (0, [some (.ref b), some (.int x1), none, none], [], H, c, n) res := by
  delta F_21 at hr
  refine x_b 4 (S2 := (4, [some (.ref b), some (.int x1), some (.int 0), some (.int 0)], [], H, c, n)) rfl ?_
  refine x_fg (Lq.s (Lq.s (Lq.s (Lq.s Lq.nil)))) ?_
  obtain ⟨v5, h4, hr⟩ := bd_some hr
  refine x_lw (P := P_21_4 H b c n B x1) (Q := fun x => Ex d am_M21 scr (PX_21_4 H b c n B x1 x) res) (fun s o h1 ka kx => g_21_4 hd hR h1 ka kx) _ (0, 0) _ h4 ?_
  show Ex d am_M21 scr (29, [none, none, some (.int v5), none], [], H, c, n) res
  refine x_b 1 (S2 := (30, [none, none, some (.int v5), none], [.int v5], H, c, n)) rfl ?_
  cases hr
  rw [kr]
  exact x_ret rfl rfl am_ret_i
theorem m_21 {H : AHp} {b : Nat} {B : Bd} {x1 : Int32} (hR : Rg H b (Bd.cells b B)) {o : Int32} (hr : F_21 B x1 = some o) : Rn 3 21 [.ref b, .int x1] H (.inl (some (.int o)), H, 0, 0) :=
  x_meth (M := am_M21) rfl (show 2 ≤ 4 by decide) (f_21 (Nat.le_refl _) hR hr rfl)
abbrev P_22_4 (H : AHp) (b : Nat) (c n : Nat) (B : Bd) (s : Int32 × Int32) : ASt := (4, [some (.ref b), some (.int s.1), some (.int s.2)], [], H, c, n)
abbrev PX_22_4 (H : AHp) (b : Nat) (c n : Nat) (B : Bd) (s : Int32) : ASt := (27, [none, some (.int s), none], [], H, c, n)
def G_22_4 (B : Bd) (s : Int32 × Int32) : Option ((Int32 × Int32) ⊕ (Int32)) := 
  match s with
  | (x1, x2) =>
    if B.vertices ≤ x2 then
      some (.inr x1)
    else
      (ix x2 6).bind fun i2 =>
      some (.inl ((x1 + (B.pile i2)), (x2 + 1)))
theorem g_22_4 {d : Nat} (hd : 1 ≤ d) {scr : ASc} {res : ARe} {c n : Nat} {H : AHp} {b : Nat} {B : Bd} (hR : Rg H b (Bd.cells b B)) {s : Int32 × Int32} {o : (Int32 × Int32) ⊕ (Int32)} (hr : G_22_4 B s = some o) (ka : ∀ s, o = .inl s → Ex d am_M22 scr (P_22_4 H b c n B s) res) (kx : ∀ s, o = .inr s → Ex d am_M22 scr (PX_22_4 H b c n B s) res) : Ex d am_M22 scr (P_22_4 H b c n B s) res := by
  obtain ⟨x1, x2⟩ := s
  delta G_22_4 at hr
  show Ex d am_M22 scr (4, [some (.ref b), some (.int x1), some (.int x2)], [], H, c, n) res
  refine x_b 1 (S2 := (5, [some (.ref b), some (.int x1), some (.int x2)], [.int x2], H, c, n)) rfl ?_
  refine x_ldan rfl rfl rfl (hR.lt (i := 0) (show 0 < 6 by decide)) ?_
  refine x_getf rfl rfl (hR.lt (i := 0) (show 0 < 6 by decide)) (hR.at (i := 0) rfl) rfl ?_
  rcases ite_some hr with ⟨h1, hr⟩ | ⟨h1, hr⟩
  · refine x_ct rfl rfl (decide_eq_true h1) ?_
    refine x_fg (Lq.n (Lq.s (Lq.n Lq.nil))) ?_
    exact kx _ (Option.some.inj hr).symm
  · refine x_cf rfl rfl (decide_eq_false h1) ?_
    refine x_b 1 (S2 := (13, [some (.ref b), some (.int x1), some (.int x2)], [.int x1], H, c, n)) rfl ?_
    refine x_ldan rfl rfl rfl (hR.lt (i := 0) (show 0 < 6 by decide)) ?_
    refine x_getf rfl rfl (hR.lt (i := 0) (show 0 < 6 by decide)) (hR.at (i := 0) rfl) rfl ?_
    refine x_b 1 (S2 := (18, [some (.ref b), some (.int x1), some (.int x2)], [.int x2, .ref (b + 1), .int x1], H, c, n)) rfl ?_
    obtain ⟨i2, h3, hr⟩ := bd_some hr
    refine x_iald rfl rfl (hR.lt (i := 1) (show 1 < 6 by decide)) (hR.at (i := 1) rfl) h3 ?_
    refine x_b 4 (S2 := (4, [some (.ref b), some (.int (x1 + (B.pile i2))), some (.int (x2 + 1))], [], H, c, n)) rfl ?_
    refine x_fg (Lq.s (Lq.s (Lq.s Lq.nil))) ?_
    exact ka _ (Option.some.inj hr).symm
/-- PebbleProofs$Board.allPebbles()I -/
def F_22 (B : Bd) : Option (Int32) :=
  (lw (G_22_4 B) 200000 (0, 0)).bind fun v5 =>
  some v5
theorem f_22 {d : Nat} (hd : 1 ≤ d) {scr : ASc} {res : ARe} {c n : Nat} {H : AHp} {b : Nat} {B : Bd} (hR : Rg H b (Bd.cells b B)) {o : Int32} (hr : F_22 B = some o) (kr : res = (.inl (some (.int o)), H, c, n)) : Ex d am_M22 scr (0, [some (.ref b), none, none], [], H, c, n) res := by
  delta F_22 at hr
  refine x_b 4 (S2 := (4, [some (.ref b), some (.int 0), some (.int 0)], [], H, c, n)) rfl ?_
  refine x_fg (Lq.s (Lq.s (Lq.s Lq.nil))) ?_
  obtain ⟨v5, h4, hr⟩ := bd_some hr
  refine x_lw (P := P_22_4 H b c n B) (Q := fun x => Ex d am_M22 scr (PX_22_4 H b c n B x) res) (fun s o h1 ka kx => g_22_4 hd hR h1 ka kx) _ (0, 0) _ h4 ?_
  show Ex d am_M22 scr (27, [none, some (.int v5), none], [], H, c, n) res
  refine x_b 1 (S2 := (28, [none, some (.int v5), none], [.int v5], H, c, n)) rfl ?_
  cases hr
  rw [kr]
  exact x_ret rfl rfl am_ret_i
theorem m_22 {H : AHp} {b : Nat} {B : Bd} (hR : Rg H b (Bd.cells b B)) {o : Int32} (hr : F_22 B = some o) : Rn 2 22 [.ref b] H (.inl (some (.int o)), H, 0, 0) :=
  x_meth (M := am_M22) rfl (show 1 ≤ 3 by decide) (f_22 (Nat.le_refl _) hR hr rfl)
def J_23_0_j36 (B : Bd) (t0 : Int32) : Option (Int32) :=
  if t0 = 0 ∨ t0 = 1 then some t0 else none
theorem j_23_0_j36 {d : Nat} (hd : 2 ≤ d) {scr : ASc} {res : ARe} {c n : Nat} {H : AHp} {b : Nat} {B : Bd} {t0 : Int32} (hR : Rg H b (Bd.cells b B)) {o : Int32} (hr : J_23_0_j36 B t0 = some o) (kr : res = (.inl (some (.int o)), H, c, n)) : Ex d am_M23 scr (36, [none, none, none], [.int t0], H, c, n) res := by
  delta J_23_0_j36 at hr
  obtain ⟨h4, hr⟩ := itn_some hr
  cases hr
  rw [kr]
  exact x_ret rfl rfl (am_ret_z h4)
def J_23_0_j35 (B : Bd) : Option (Int32) :=
  J_23_0_j36 B 0
theorem j_23_0_j35 {d : Nat} (hd : 2 ≤ d) {scr : ASc} {res : ARe} {c n : Nat} {H : AHp} {b : Nat} {B : Bd} (hR : Rg H b (Bd.cells b B)) {o : Int32} (hr : J_23_0_j35 B = some o) (kr : res = (.inl (some (.int o)), H, c, n)) : Ex d am_M23 scr (35, [none, none, none], [], H, c, n) res := by
  delta J_23_0_j35 at hr
  refine x_b 1 (S2 := (36, [none, none, none], [.int 0], H, c, n)) rfl ?_
  refine x_fg (Lq.s (Lq.s (Lq.s Lq.nil))) ?_
  exact j_23_0_j36 hd hR hr kr
/-- PebbleProofs$Board.allowsMove(II)Z -/
def F_23 (B : Bd) (x1 : Int32) (x2 : Int32) : Option (Int32) :=
  (ix x1 6).bind fun i1 =>
  if (B.pile i1) < 2 then
    J_23_0_j35 B
  else
    (F_6 B x1 x2).bind fun v6 =>
    if v6 = 0 then
      J_23_0_j35 B
    else
      (ix x2 6).bind fun i8 =>
      if 999 ≤ (B.pile i8) then
        J_23_0_j35 B
      else
        J_23_0_j36 B 1
theorem f_23 {d : Nat} (hd : 2 ≤ d) {scr : ASc} {res : ARe} {c n : Nat} {H : AHp} {b : Nat} {B : Bd} {x1 : Int32} {x2 : Int32} (hR : Rg H b (Bd.cells b B)) {o : Int32} (hr : F_23 B x1 x2 = some o) (kr : res = (.inl (some (.int o)), H, c, n)) : Ex d am_M23 scr (0, [some (.ref b), some (.int x1), some (.int x2)], [], H, c, n) res := by
  delta F_23 at hr
  refine x_ldan rfl rfl rfl (hR.lt (i := 0) (show 0 < 6 by decide)) ?_
  refine x_getf rfl rfl (hR.lt (i := 0) (show 0 < 6 by decide)) (hR.at (i := 0) rfl) rfl ?_
  refine x_b 1 (S2 := (5, [some (.ref b), some (.int x1), some (.int x2)], [.int x1, .ref (b + 1)], H, c, n)) rfl ?_
  obtain ⟨i1, h2, hr⟩ := bd_some hr
  refine x_iald rfl rfl (hR.lt (i := 1) (show 1 < 6 by decide)) (hR.at (i := 1) rfl) h2 ?_
  refine x_b 1 (S2 := (7, [some (.ref b), some (.int x1), some (.int x2)], [.int 2, .int (B.pile i1)], H, c, n)) rfl ?_
  rcases ite_some hr with ⟨h3, hr⟩ | ⟨h3, hr⟩
  · refine x_ct rfl rfl (decide_eq_true h3) ?_
    refine x_fg (Lq.n (Lq.n (Lq.n Lq.nil))) ?_
    exact j_23_0_j35 hd hR hr kr
  · refine x_cf rfl rfl (decide_eq_false h3) ?_
    refine x_ldan rfl rfl rfl (hR.lt (i := 0) (show 0 < 6 by decide)) ?_
    refine x_b 2 (S2 := (13, [some (.ref b), some (.int x1), some (.int x2)], [.int x2, .int x1, .ref b], H, c, n)) rfl ?_
    obtain ⟨v6, h5, hr⟩ := bd_some hr
    refine x_c0 (m_6 hR h5) rfl rfl rfl rfl (am_recv_v (hR.lt (i := 0) (show 0 < 6 by decide)) (hR.at (i := 0) rfl) rfl) (by omega) ?_
    rcases ite_some hr with ⟨h7, hr⟩ | ⟨h7, hr⟩
    · refine x_zt rfl rfl (decide_eq_true h7) ?_
      refine x_fg (Lq.n (Lq.n (Lq.n Lq.nil))) ?_
      exact j_23_0_j35 hd hR hr kr
    · refine x_zf rfl rfl (decide_eq_false h7) ?_
      refine x_ldan rfl rfl rfl (hR.lt (i := 0) (show 0 < 6 by decide)) ?_
      refine x_getf rfl rfl (hR.lt (i := 0) (show 0 < 6 by decide)) (hR.at (i := 0) rfl) rfl ?_
      refine x_b 1 (S2 := (24, [some (.ref b), some (.int x1), some (.int x2)], [.int x2, .ref (b + 1)], H, c, n)) rfl ?_
      obtain ⟨i8, h9, hr⟩ := bd_some hr
      refine x_iald rfl rfl (hR.lt (i := 1) (show 1 < 6 by decide)) (hR.at (i := 1) rfl) h9 ?_
      refine x_b 1 (S2 := (28, [some (.ref b), some (.int x1), some (.int x2)], [.int 999, .int (B.pile i8)], H, c, n)) rfl ?_
      rcases ite_some hr with ⟨h10, hr⟩ | ⟨h10, hr⟩
      · refine x_ct rfl rfl (decide_eq_true h10) ?_
        refine x_fg (Lq.n (Lq.n (Lq.n Lq.nil))) ?_
        exact j_23_0_j35 hd hR hr kr
      · refine x_cf rfl rfl (decide_eq_false h10) ?_
        refine x_b 2 (S2 := (36, [some (.ref b), some (.int x1), some (.int x2)], [.int 1], H, c, n)) rfl ?_
        refine x_fg (Lq.n (Lq.n (Lq.n Lq.nil))) ?_
        exact j_23_0_j36 hd hR hr kr
theorem m_23 {H : AHp} {b : Nat} {B : Bd} {x1 : Int32} {x2 : Int32} (hR : Rg H b (Bd.cells b B)) {o : Int32} (hr : F_23 B x1 x2 = some o) : Rn 3 23 [.ref b, .int x1, .int x2] H (.inl (some (.int o)), H, 0, 0) :=
  x_meth (M := am_M23) rfl (show 3 ≤ 3 by decide) (f_23 (Nat.le_refl _) hR hr rfl)
/-- PebbleProofs$Board.makeMove(II)V -/
def F_24 (B : Bd) (x1 : Int32) (x2 : Int32) : Option (Bd) :=
  (ix x1 6).bind fun i1 =>
  (ix x2 6).bind fun i3 =>
  some ((B.w_pile (upd (upd B.pile i1 ((B.pile i1) - 2)) i3 (((upd B.pile i1 ((B.pile i1) - 2)) i3) + 1))).w_moveCount (B.moveCount + 1))
theorem f_24 {d : Nat} (hd : 1 ≤ d) {scr : ASc} {res : ARe} {c n : Nat} {h : AHp} {b : Nat} (hb : b + 6 ≤ am_SB) (hh : b + 6 ≤ h.length) {B : Bd} {x1 : Int32} {x2 : Int32} {o : Bd} (hr : F_24 B x1 x2 = some o) (kr : res = (.inl (none), hput h b (Bd.cells b o), c, n)) : Ex d am_M24 scr (0, [some (.ref b), some (.int x1), some (.int x2)], [], (hput h b (Bd.cells b B)), c, n) res := by
  delta F_24 at hr
  refine x_ldan rfl rfl rfl (h_lt (i := 0) hb (by decide)) ?_
  refine x_getf rfl rfl (h_lt (i := 0) hb (by decide)) (hp_at (i := 0) hh rfl rfl) rfl ?_
  refine x_b 2 (S2 := (6, [some (.ref b), some (.int x1), some (.int x2)], [.int x1, .ref (b + 1), .int x1, .ref (b + 1)], (hput h b (Bd.cells b B)), c, n)) rfl ?_
  obtain ⟨i1, h2, hr⟩ := bd_some hr
  refine x_iald rfl rfl (h_lt (i := 1) hb (by decide)) (hp_at (i := 1) hh rfl rfl) h2 ?_
  refine x_b 2 (S2 := (9, [some (.ref b), some (.int x1), some (.int x2)], [.int ((B.pile i1) - 2), .int x1, .ref (b + 1)], (hput h b (Bd.cells b B)), c, n)) rfl ?_
  refine x_iast (H := (hput h b (Bd.cells b (B.w_pile (upd B.pile i1 ((B.pile i1) - 2)))))) rfl rfl (h_lt (i := 1) hb (by decide)) (hp_at (i := 1) hh rfl rfl) h2 (hp_set (i := 1) hh rfl (by decide) rfl) ?_
  refine x_ldan rfl rfl rfl (h_lt (i := 0) hb (by decide)) ?_
  refine x_getf rfl rfl (h_lt (i := 0) hb (by decide)) (hp_at (i := 0) hh rfl rfl) rfl ?_
  refine x_b 2 (S2 := (16, [some (.ref b), some (.int x1), some (.int x2)], [.int x2, .ref (b + 1), .int x2, .ref (b + 1)], (hput h b (Bd.cells b (B.w_pile (upd B.pile i1 ((B.pile i1) - 2))))), c, n)) rfl ?_
  obtain ⟨i3, h4, hr⟩ := bd_some hr
  refine x_iald rfl rfl (h_lt (i := 1) hb (by decide)) (hp_at (i := 1) hh rfl rfl) h4 ?_
  refine x_b 2 (S2 := (19, [some (.ref b), some (.int x1), some (.int x2)], [.int (((upd B.pile i1 ((B.pile i1) - 2)) i3) + 1), .int x2, .ref (b + 1)], (hput h b (Bd.cells b (B.w_pile (upd B.pile i1 ((B.pile i1) - 2))))), c, n)) rfl ?_
  refine x_iast (H := (hput h b (Bd.cells b (B.w_pile (upd (upd B.pile i1 ((B.pile i1) - 2)) i3 (((upd B.pile i1 ((B.pile i1) - 2)) i3) + 1)))))) rfl rfl (h_lt (i := 1) hb (by decide)) (hp_at (i := 1) hh rfl rfl) h4 (hp_set (i := 1) hh rfl (by decide) rfl) ?_
  refine x_ldan rfl rfl rfl (h_lt (i := 0) hb (by decide)) ?_
  refine x_b 1 (S2 := (22, [some (.ref b), some (.int x1), some (.int x2)], [.ref b, .ref b], (hput h b (Bd.cells b (B.w_pile (upd (upd B.pile i1 ((B.pile i1) - 2)) i3 (((upd B.pile i1 ((B.pile i1) - 2)) i3) + 1))))), c, n)) rfl ?_
  refine x_getf rfl rfl (h_lt (i := 0) hb (by decide)) (hp_at (i := 0) hh rfl rfl) rfl ?_
  refine x_b 2 (S2 := (27, [some (.ref b), some (.int x1), some (.int x2)], [.int (B.moveCount + 1), .ref b], (hput h b (Bd.cells b (B.w_pile (upd (upd B.pile i1 ((B.pile i1) - 2)) i3 (((upd B.pile i1 ((B.pile i1) - 2)) i3) + 1))))), c, n)) rfl ?_
  refine x_putf (H := (hput h b (Bd.cells b ((B.w_pile (upd (upd B.pile i1 ((B.pile i1) - 2)) i3 (((upd B.pile i1 ((B.pile i1) - 2)) i3) + 1))).w_moveCount (B.moveCount + 1))))) rfl rfl (h_lt (i := 0) hb (by decide)) (hp_at (i := 0) hh rfl rfl) ⟨(show 2 < 9 by decide), rfl, rfl, nofun⟩ (hp_set (i := 0) hh rfl (by decide) rfl) ?_
  cases hr
  rw [kr]
  exact x_ret rfl rfl rfl
theorem m_24 {h : AHp} {b : Nat} (hb : b + 6 ≤ am_SB) (hh : b + 6 ≤ h.length) {B : Bd} {x1 : Int32} {x2 : Int32} {o : Bd} (hr : F_24 B x1 x2 = some o) : Rn 2 24 [.ref b, .int x1, .int x2] (hput h b (Bd.cells b B)) (.inl (none), hput h b (Bd.cells b o), 0, 0) :=
  x_meth (M := am_M24) rfl (show 3 ≤ 3 by decide) (f_24 (Nat.le_refl _) hb hh hr rfl)
/-- PebbleProofs$Board.setWeight(IIII)V -/
def F_27 (B : Bd) (x1 : Int32) (x2 : Int32) (x3 : Int32) (x4 : Int32) : Option (Bd) :=
  (ix ((6 * x1) + x2) 36).bind fun i1 =>
  some ((B.w_weights (upd B.weights i1 x4)).w_parents (upd B.parents i1 x3))
theorem f_27 {d : Nat} (hd : 1 ≤ d) {scr : ASc} {res : ARe} {c n : Nat} {h : AHp} {b : Nat} (hb : b + 6 ≤ am_SB) (hh : b + 6 ≤ h.length) {B : Bd} {x1 : Int32} {x2 : Int32} {x3 : Int32} {x4 : Int32} {o : Bd} (hr : F_27 B x1 x2 x3 x4 = some o) (kr : res = (.inl (none), hput h b (Bd.cells b o), c, n)) : Ex d am_M27 scr (0, [some (.ref b), some (.int x1), some (.int x2), some (.int x3), some (.int x4)], [], (hput h b (Bd.cells b B)), c, n) res := by
  delta F_27 at hr
  refine x_ldan rfl rfl rfl (h_lt (i := 0) hb (by decide)) ?_
  refine x_getf rfl rfl (h_lt (i := 0) hb (by decide)) (hp_at (i := 0) hh rfl rfl) rfl ?_
  refine x_b 6 (S2 := (12, [some (.ref b), some (.int x1), some (.int x2), some (.int x3), some (.int x4)], [.int x4, .int ((6 * x1) + x2), .ref (b + 4)], (hput h b (Bd.cells b B)), c, n)) rfl ?_
  obtain ⟨i1, h2, hr⟩ := bd_some hr
  refine x_iast (H := (hput h b (Bd.cells b (B.w_weights (upd B.weights i1 x4))))) rfl rfl (h_lt (i := 4) hb (by decide)) (hp_at (i := 4) hh rfl rfl) h2 (hp_set (i := 4) hh rfl (by decide) rfl) ?_
  refine x_ldan rfl rfl rfl (h_lt (i := 0) hb (by decide)) ?_
  refine x_getf rfl rfl (h_lt (i := 0) hb (by decide)) (hp_at (i := 0) hh rfl rfl) rfl ?_
  refine x_b 6 (S2 := (24, [some (.ref b), some (.int x1), some (.int x2), some (.int x3), some (.int x4)], [.int x3, .int ((6 * x1) + x2), .ref (b + 5)], (hput h b (Bd.cells b (B.w_weights (upd B.weights i1 x4)))), c, n)) rfl ?_
  refine x_iast (H := (hput h b (Bd.cells b ((B.w_weights (upd B.weights i1 x4)).w_parents (upd B.parents i1 x3))))) rfl rfl (h_lt (i := 5) hb (by decide)) (hp_at (i := 5) hh rfl rfl) h2 (hp_set (i := 5) hh rfl (by decide) rfl) ?_
  cases hr
  rw [kr]
  exact x_ret rfl rfl rfl
theorem m_27 {h : AHp} {b : Nat} (hb : b + 6 ≤ am_SB) (hh : b + 6 ≤ h.length) {B : Bd} {x1 : Int32} {x2 : Int32} {x3 : Int32} {x4 : Int32} {o : Bd} (hr : F_27 B x1 x2 x3 x4 = some o) : Rn 2 27 [.ref b, .int x1, .int x2, .int x3, .int x4] (hput h b (Bd.cells b B)) (.inl (none), hput h b (Bd.cells b o), 0, 0) :=
  x_meth (M := am_M27) rfl (show 5 ≤ 5 by decide) (f_27 (Nat.le_refl _) hb hh hr rfl)
abbrev P_25_14 (h : AHp) (b : Nat) (c n : Nat) (x2 : Int32) (s : Int32 × Bd) : ASt := (14, [some (.ref b), none, some (.int x2), some (.int s.1)], [], (hput h b (Bd.cells b s.2)), c, n)
abbrev PX_25_14 (h : AHp) (b : Nat) (c n : Nat) (x2 : Int32) (s : Bd) : ASt := (34, [some (.ref b), none, none, none], [], (hput h b (Bd.cells b s)), c, n)
def G_25_14 (x2 : Int32) (s : Int32 × Bd) : Option ((Int32 × Bd) ⊕ (Bd)) := 
  match s with
  | (x3, B) =>
    if 6 ≤ x3 then
      some (.inr B)
    else
      (F_27 B x2 x3 (-1) 0).bind fun B5 =>
      some (.inl ((x3 + 1), B5))
theorem g_25_14 {d : Nat} (hd : 2 ≤ d) {scr : ASc} {res : ARe} {c n : Nat} {h : AHp} {b : Nat} (hb : b + 6 ≤ am_SB) (hh : b + 6 ≤ h.length) {x2 : Int32} {s : Int32 × Bd} {o : (Int32 × Bd) ⊕ (Bd)} (hr : G_25_14 x2 s = some o) (ka : ∀ s, o = .inl s → Ex d am_M25 scr (P_25_14 h b c n x2 s) res) (kx : ∀ s, o = .inr s → Ex d am_M25 scr (PX_25_14 h b c n x2 s) res) : Ex d am_M25 scr (P_25_14 h b c n x2 s) res := by
  obtain ⟨x3, B⟩ := s
  delta G_25_14 at hr
  show Ex d am_M25 scr (14, [some (.ref b), none, some (.int x2), some (.int x3)], [], (hput h b (Bd.cells b B)), c, n) res
  refine x_b 2 (S2 := (17, [some (.ref b), none, some (.int x2), some (.int x3)], [.int 6, .int x3], (hput h b (Bd.cells b B)), c, n)) rfl ?_
  rcases ite_some hr with ⟨h3, hr⟩ | ⟨h3, hr⟩
  · refine x_ct rfl rfl (decide_eq_true h3) ?_
    refine x_fg (Lq.s (Lq.s (Lq.n (Lq.n Lq.nil)))) ?_
    exact kx _ (Option.some.inj hr).symm
  · refine x_cf rfl rfl (decide_eq_false h3) ?_
    refine x_ldan rfl rfl rfl (h_lt (i := 0) hb (by decide)) ?_
    refine x_b 4 (S2 := (25, [some (.ref b), none, some (.int x2), some (.int x3)], [.int 0, .int (-1), .int x3, .int x2, .ref b], (hput h b (Bd.cells b B)), c, n)) rfl ?_
    obtain ⟨B5, h4, hr⟩ := bd_some hr
    refine x_c0 (m_27 hb hh h4) rfl rfl rfl rfl (am_recv_v (h_lt (i := 0) hb (by decide)) (hp_at (i := 0) hh rfl rfl) rfl) (by omega) ?_
    refine x_b 2 (S2 := (14, [some (.ref b), none, some (.int x2), some (.int (x3 + 1))], [], (hput h b (Bd.cells b B5)), c, n)) rfl ?_
    refine x_fg (Lq.s (Lq.s (Lq.s (Lq.s Lq.nil)))) ?_
    exact ka _ (Option.some.inj hr).symm
/-- PebbleProofs$Board.openStrategy(I)V -/
def F_25 (B : Bd) (x1 : Int32) : Option (Bd) :=
  (ix B.strategyCount 6).bind fun i1 =>
  (lw (G_25_14 B.strategyCount) 200000 (0, (B.w_targets (upd B.targets i1 x1)))).bind fun B7 =>
  some (B7.w_strategyCount (B7.strategyCount + 1))
theorem f_25 {d : Nat} (hd : 2 ≤ d) {scr : ASc} {res : ARe} {c n : Nat} {h : AHp} {b : Nat} (hb : b + 6 ≤ am_SB) (hh : b + 6 ≤ h.length) {B : Bd} {x1 : Int32} {o : Bd} (hr : F_25 B x1 = some o) (kr : res = (.inl (none), hput h b (Bd.cells b o), c, n)) : Ex d am_M25 scr (0, [some (.ref b), some (.int x1), none, none], [], (hput h b (Bd.cells b B)), c, n) res := by
  delta F_25 at hr
  refine x_ldan rfl rfl rfl (h_lt (i := 0) hb (by decide)) ?_
  refine x_getf rfl rfl (h_lt (i := 0) hb (by decide)) (hp_at (i := 0) hh rfl rfl) rfl ?_
  refine x_b 1 (S2 := (5, [some (.ref b), some (.int x1), some (.int B.strategyCount), none], [], (hput h b (Bd.cells b B)), c, n)) rfl ?_
  refine x_ldan rfl rfl rfl (h_lt (i := 0) hb (by decide)) ?_
  refine x_getf rfl rfl (h_lt (i := 0) hb (by decide)) (hp_at (i := 0) hh rfl rfl) rfl ?_
  refine x_b 2 (S2 := (11, [some (.ref b), some (.int x1), some (.int B.strategyCount), none], [.int x1, .int B.strategyCount, .ref (b + 3)], (hput h b (Bd.cells b B)), c, n)) rfl ?_
  obtain ⟨i1, h2, hr⟩ := bd_some hr
  refine x_iast (H := (hput h b (Bd.cells b (B.w_targets (upd B.targets i1 x1))))) rfl rfl (h_lt (i := 3) hb (by decide)) (hp_at (i := 3) hh rfl rfl) h2 (hp_set (i := 3) hh rfl (by decide) rfl) ?_
  refine x_b 2 (S2 := (14, [some (.ref b), some (.int x1), some (.int B.strategyCount), some (.int 0)], [], (hput h b (Bd.cells b (B.w_targets (upd B.targets i1 x1)))), c, n)) rfl ?_
  refine x_fg (Lq.s (Lq.n (Lq.s (Lq.s Lq.nil)))) ?_
  obtain ⟨B7, h6, hr⟩ := bd_some hr
  refine x_lw (P := P_25_14 h b c n B.strategyCount) (Q := fun x => Ex d am_M25 scr (PX_25_14 h b c n B.strategyCount x) res) (fun s o h1 ka kx => g_25_14 hd hb hh h1 ka kx) _ (0, (B.w_targets (upd B.targets i1 x1))) _ h6 ?_
  show Ex d am_M25 scr (34, [some (.ref b), none, none, none], [], (hput h b (Bd.cells b B7)), c, n) res
  refine x_ldan rfl rfl rfl (h_lt (i := 0) hb (by decide)) ?_
  refine x_b 1 (S2 := (36, [some (.ref b), none, none, none], [.ref b, .ref b], (hput h b (Bd.cells b B7)), c, n)) rfl ?_
  refine x_getf rfl rfl (h_lt (i := 0) hb (by decide)) (hp_at (i := 0) hh rfl rfl) rfl ?_
  refine x_b 2 (S2 := (41, [some (.ref b), none, none, none], [.int (B7.strategyCount + 1), .ref b], (hput h b (Bd.cells b B7)), c, n)) rfl ?_
  refine x_putf (H := (hput h b (Bd.cells b (B7.w_strategyCount (B7.strategyCount + 1))))) rfl rfl (h_lt (i := 0) hb (by decide)) (hp_at (i := 0) hh rfl rfl) ⟨(show 3 < 9 by decide), rfl, rfl, nofun⟩ (hp_set (i := 0) hh rfl (by decide) rfl) ?_
  cases hr
  rw [kr]
  exact x_ret rfl rfl rfl
theorem m_25 {h : AHp} {b : Nat} (hb : b + 6 ≤ am_SB) (hh : b + 6 ≤ h.length) {B : Bd} {x1 : Int32} {o : Bd} (hr : F_25 B x1 = some o) : Rn 3 25 [.ref b, .int x1] (hput h b (Bd.cells b B)) (.inl (none), hput h b (Bd.cells b o), 0, 0) :=
  x_meth (M := am_M25) rfl (show 2 ≤ 4 by decide) (f_25 (Nat.le_refl _) hb hh hr rfl)
/-- PebbleProofs$Board.parentOf(II)I -/
def F_29 (B : Bd) (x1 : Int32) (x2 : Int32) : Option (Int32) :=
  (ix ((6 * x1) + x2) 36).bind fun i1 =>
  some (B.parents i1)
theorem f_29 {d : Nat} (hd : 1 ≤ d) {scr : ASc} {res : ARe} {c n : Nat} {H : AHp} {b : Nat} {B : Bd} {x1 : Int32} {x2 : Int32} (hR : Rg H b (Bd.cells b B)) {o : Int32} (hr : F_29 B x1 x2 = some o) (kr : res = (.inl (some (.int o)), H, c, n)) : Ex d am_M29 scr (0, [some (.ref b), some (.int x1), some (.int x2)], [], H, c, n) res := by
  delta F_29 at hr
  refine x_ldan rfl rfl rfl (hR.lt (i := 0) (show 0 < 6 by decide)) ?_
  refine x_getf rfl rfl (hR.lt (i := 0) (show 0 < 6 by decide)) (hR.at (i := 0) rfl) rfl ?_
  refine x_b 5 (S2 := (10, [some (.ref b), some (.int x1), some (.int x2)], [.int ((6 * x1) + x2), .ref (b + 5)], H, c, n)) rfl ?_
  obtain ⟨i1, h2, hr⟩ := bd_some hr
  refine x_iald rfl rfl (hR.lt (i := 5) (show 5 < 6 by decide)) (hR.at (i := 5) rfl) h2 ?_
  cases hr
  rw [kr]
  exact x_ret rfl rfl am_ret_i
theorem m_29 {H : AHp} {b : Nat} {B : Bd} {x1 : Int32} {x2 : Int32} (hR : Rg H b (Bd.cells b B)) {o : Int32} (hr : F_29 B x1 x2 = some o) : Rn 2 29 [.ref b, .int x1, .int x2] H (.inl (some (.int o)), H, 0, 0) :=
  x_meth (M := am_M29) rfl (show 3 ≤ 3 by decide) (f_29 (Nat.le_refl _) hR hr rfl)
/-- PebbleProofs$Board.weightOf(II)I -/
def F_28 (B : Bd) (x1 : Int32) (x2 : Int32) : Option (Int32) :=
  (ix ((6 * x1) + x2) 36).bind fun i1 =>
  some (B.weights i1)
theorem f_28 {d : Nat} (hd : 1 ≤ d) {scr : ASc} {res : ARe} {c n : Nat} {H : AHp} {b : Nat} {B : Bd} {x1 : Int32} {x2 : Int32} (hR : Rg H b (Bd.cells b B)) {o : Int32} (hr : F_28 B x1 x2 = some o) (kr : res = (.inl (some (.int o)), H, c, n)) : Ex d am_M28 scr (0, [some (.ref b), some (.int x1), some (.int x2)], [], H, c, n) res := by
  delta F_28 at hr
  refine x_ldan rfl rfl rfl (hR.lt (i := 0) (show 0 < 6 by decide)) ?_
  refine x_getf rfl rfl (hR.lt (i := 0) (show 0 < 6 by decide)) (hR.at (i := 0) rfl) rfl ?_
  refine x_b 5 (S2 := (10, [some (.ref b), some (.int x1), some (.int x2)], [.int ((6 * x1) + x2), .ref (b + 4)], H, c, n)) rfl ?_
  obtain ⟨i1, h2, hr⟩ := bd_some hr
  refine x_iald rfl rfl (hR.lt (i := 4) (show 4 < 6 by decide)) (hR.at (i := 4) rfl) h2 ?_
  cases hr
  rw [kr]
  exact x_ret rfl rfl am_ret_i
theorem m_28 {H : AHp} {b : Nat} {B : Bd} {x1 : Int32} {x2 : Int32} (hR : Rg H b (Bd.cells b B)) {o : Int32} (hr : F_28 B x1 x2 = some o) : Rn 2 28 [.ref b, .int x1, .int x2] H (.inl (some (.int o)), H, 0, 0) :=
  x_meth (M := am_M28) rfl (show 3 ≤ 3 by decide) (f_28 (Nat.le_refl _) hR hr rfl)
abbrev P_26_2 (h : AHp) (b : Nat) (c n : Nat)  (s : Int32 × Bd) : ASt := (2, [some (.ref b), none, some (.int s.1), none], [], (hput h b (Bd.cells b s.2)), c, n)
abbrev PX_26_2 (h : AHp) (b : Nat) (c n : Nat)  (s : Bd) : ASt := (70, [some (.ref b), none, none, none], [], (hput h b (Bd.cells b s)), c, n)
abbrev P_26_28 (h : AHp) (b : Nat) (c n : Nat) (x2 : Int32) (s : Int32 × Bd) : ASt := (28, [some (.ref b), none, some (.int x2), some (.int s.1)], [], (hput h b (Bd.cells b s.2)), c, n)
abbrev PX_26_28 (h : AHp) (b : Nat) (c n : Nat) (x2 : Int32) (s : Bd) : ASt := (64, [some (.ref b), none, some (.int x2), none], [], (hput h b (Bd.cells b s)), c, n)
def G_26_28 (x2 : Int32) (s : Int32 × Bd) : Option ((Int32 × Bd) ⊕ (Bd)) := 
  match s with
  | (x3, B) =>
    if B.vertices ≤ x3 then
      some (.inr B)
    else
      (F_29 B (x2 + 1) x3).bind fun v8 =>
      (F_28 B (x2 + 1) x3).bind fun v10 =>
      (F_27 B x2 x3 v8 v10).bind fun B12 =>
      some (.inl ((x3 + 1), B12))
theorem g_26_28 {d : Nat} (hd : 2 ≤ d) {scr : ASc} {res : ARe} {c n : Nat} {h : AHp} {b : Nat} (hb : b + 6 ≤ am_SB) (hh : b + 6 ≤ h.length) {x2 : Int32} {s : Int32 × Bd} {o : (Int32 × Bd) ⊕ (Bd)} (hr : G_26_28 x2 s = some o) (ka : ∀ s, o = .inl s → Ex d am_M26 scr (P_26_28 h b c n x2 s) res) (kx : ∀ s, o = .inr s → Ex d am_M26 scr (PX_26_28 h b c n x2 s) res) : Ex d am_M26 scr (P_26_28 h b c n x2 s) res := by
  obtain ⟨x3, B⟩ := s
  delta G_26_28 at hr
  show Ex d am_M26 scr (28, [some (.ref b), none, some (.int x2), some (.int x3)], [], (hput h b (Bd.cells b B)), c, n) res
  refine x_b 1 (S2 := (29, [some (.ref b), none, some (.int x2), some (.int x3)], [.int x3], (hput h b (Bd.cells b B)), c, n)) rfl ?_
  refine x_ldan rfl rfl rfl (h_lt (i := 0) hb (by decide)) ?_
  refine x_getf rfl rfl (h_lt (i := 0) hb (by decide)) (hp_at (i := 0) hh rfl rfl) rfl ?_
  rcases ite_some hr with ⟨h6, hr⟩ | ⟨h6, hr⟩
  · refine x_ct rfl rfl (decide_eq_true h6) ?_
    refine x_fg (Lq.s (Lq.s (Lq.s (Lq.n Lq.nil)))) ?_
    exact kx _ (Option.some.inj hr).symm
  · refine x_cf rfl rfl (decide_eq_false h6) ?_
    refine x_ldan rfl rfl rfl (h_lt (i := 0) hb (by decide)) ?_
    refine x_b 2 (S2 := (39, [some (.ref b), none, some (.int x2), some (.int x3)], [.int x3, .int x2, .ref b], (hput h b (Bd.cells b B)), c, n)) rfl ?_
    refine x_ldan rfl rfl rfl (h_lt (i := 0) hb (by decide)) ?_
    refine x_b 4 (S2 := (44, [some (.ref b), none, some (.int x2), some (.int x3)], [.int x3, .int (x2 + 1), .ref b, .int x3, .int x2, .ref b], (hput h b (Bd.cells b B)), c, n)) rfl ?_
    obtain ⟨v8, h7, hr⟩ := bd_some hr
    refine x_c0 (m_29 (hp_rg hb hh rfl) h7) rfl rfl rfl rfl (am_recv_v (h_lt (i := 0) hb (by decide)) (hp_at (i := 0) hh rfl rfl) rfl) (by omega) ?_
    refine x_ldan rfl rfl rfl (h_lt (i := 0) hb (by decide)) ?_
    refine x_b 4 (S2 := (52, [some (.ref b), none, some (.int x2), some (.int x3)], [.int x3, .int (x2 + 1), .ref b, .int v8, .int x3, .int x2, .ref b], (hput h b (Bd.cells b B)), c, n)) rfl ?_
    obtain ⟨v10, h9, hr⟩ := bd_some hr
    refine x_c0 (m_28 (hp_rg hb hh rfl) h9) rfl rfl rfl rfl (am_recv_v (h_lt (i := 0) hb (by decide)) (hp_at (i := 0) hh rfl rfl) rfl) (by omega) ?_
    obtain ⟨B12, h11, hr⟩ := bd_some hr
    refine x_c0 (m_27 hb hh h11) rfl rfl rfl rfl (am_recv_v (h_lt (i := 0) hb (by decide)) (hp_at (i := 0) hh rfl rfl) rfl) (by omega) ?_
    refine x_b 2 (S2 := (28, [some (.ref b), none, some (.int x2), some (.int (x3 + 1))], [], (hput h b (Bd.cells b B12)), c, n)) rfl ?_
    refine x_fg (Lq.s (Lq.s (Lq.s (Lq.s Lq.nil)))) ?_
    exact ka _ (Option.some.inj hr).symm
def G_26_2  (s : Int32 × Bd) : Option ((Int32 × Bd) ⊕ (Bd)) := 
  match s with
  | (x2, B) =>
    if B.strategyCount ≤ (x2 + 1) then
      some (.inr B)
    else
      (ix (x2 + 1) 6).bind fun i2 =>
      (ix x2 6).bind fun i4 =>
      (lw (G_26_28 x2) 200000 (0, (B.w_targets (upd B.targets i4 (B.targets i2))))).bind fun B14 =>
      some (.inl ((x2 + 1), B14))
theorem g_26_2 {d : Nat} (hd : 2 ≤ d) {scr : ASc} {res : ARe} {c n : Nat} {h : AHp} {b : Nat} (hb : b + 6 ≤ am_SB) (hh : b + 6 ≤ h.length)  {s : Int32 × Bd} {o : (Int32 × Bd) ⊕ (Bd)} (hr : G_26_2  s = some o) (ka : ∀ s, o = .inl s → Ex d am_M26 scr (P_26_2 h b c n  s) res) (kx : ∀ s, o = .inr s → Ex d am_M26 scr (PX_26_2 h b c n  s) res) : Ex d am_M26 scr (P_26_2 h b c n  s) res := by
  obtain ⟨x2, B⟩ := s
  delta G_26_2 at hr
  show Ex d am_M26 scr (2, [some (.ref b), none, some (.int x2), none], [], (hput h b (Bd.cells b B)), c, n) res
  refine x_b 3 (S2 := (5, [some (.ref b), none, some (.int x2), none], [.int (x2 + 1)], (hput h b (Bd.cells b B)), c, n)) rfl ?_
  refine x_ldan rfl rfl rfl (h_lt (i := 0) hb (by decide)) ?_
  refine x_getf rfl rfl (h_lt (i := 0) hb (by decide)) (hp_at (i := 0) hh rfl rfl) rfl ?_
  rcases ite_some hr with ⟨h1, hr⟩ | ⟨h1, hr⟩
  · refine x_ct rfl rfl (decide_eq_true h1) ?_
    refine x_fg (Lq.s (Lq.s (Lq.n (Lq.s Lq.nil)))) ?_
    exact kx _ (Option.some.inj hr).symm
  · refine x_cf rfl rfl (decide_eq_false h1) ?_
    refine x_ldan rfl rfl rfl (h_lt (i := 0) hb (by decide)) ?_
    refine x_getf rfl rfl (h_lt (i := 0) hb (by decide)) (hp_at (i := 0) hh rfl rfl) rfl ?_
    refine x_b 1 (S2 := (17, [some (.ref b), none, some (.int x2), none], [.int x2, .ref (b + 3)], (hput h b (Bd.cells b B)), c, n)) rfl ?_
    refine x_ldan rfl rfl rfl (h_lt (i := 0) hb (by decide)) ?_
    refine x_getf rfl rfl (h_lt (i := 0) hb (by decide)) (hp_at (i := 0) hh rfl rfl) rfl ?_
    refine x_b 3 (S2 := (24, [some (.ref b), none, some (.int x2), none], [.int (x2 + 1), .ref (b + 3), .int x2, .ref (b + 3)], (hput h b (Bd.cells b B)), c, n)) rfl ?_
    obtain ⟨i2, h3, hr⟩ := bd_some hr
    refine x_iald rfl rfl (h_lt (i := 3) hb (by decide)) (hp_at (i := 3) hh rfl rfl) h3 ?_
    obtain ⟨i4, h5, hr⟩ := bd_some hr
    refine x_iast (H := (hput h b (Bd.cells b (B.w_targets (upd B.targets i4 (B.targets i2)))))) rfl rfl (h_lt (i := 3) hb (by decide)) (hp_at (i := 3) hh rfl rfl) h5 (hp_set (i := 3) hh rfl (by decide) rfl) ?_
    refine x_b 2 (S2 := (28, [some (.ref b), none, some (.int x2), some (.int 0)], [], (hput h b (Bd.cells b (B.w_targets (upd B.targets i4 (B.targets i2))))), c, n)) rfl ?_
    refine x_fg (Lq.s (Lq.s (Lq.s (Lq.s Lq.nil)))) ?_
    obtain ⟨B14, h13, hr⟩ := bd_some hr
    refine x_lw (P := P_26_28 h b c n x2) (Q := fun x => Ex d am_M26 scr (PX_26_28 h b c n x2 x) res) (fun s o h1 ka kx => g_26_28 hd hb hh h1 ka kx) _ (0, (B.w_targets (upd B.targets i4 (B.targets i2)))) _ h13 ?_
    show Ex d am_M26 scr (64, [some (.ref b), none, some (.int x2), none], [], (hput h b (Bd.cells b B14)), c, n) res
    refine x_b 2 (S2 := (2, [some (.ref b), none, some (.int (x2 + 1)), none], [], (hput h b (Bd.cells b B14)), c, n)) rfl ?_
    refine x_fg (Lq.s (Lq.s (Lq.s (Lq.s Lq.nil)))) ?_
    exact ka _ (Option.some.inj hr).symm
/-- PebbleProofs$Board.closeStrategy(I)V -/
def F_26 (B : Bd) (x1 : Int32) : Option (Bd) :=
  (lw (G_26_2 ) 200000 (x1, B)).bind fun B17 =>
  some (B17.w_strategyCount (B17.strategyCount - 1))
theorem f_26 {d : Nat} (hd : 2 ≤ d) {scr : ASc} {res : ARe} {c n : Nat} {h : AHp} {b : Nat} (hb : b + 6 ≤ am_SB) (hh : b + 6 ≤ h.length) {B : Bd} {x1 : Int32} {o : Bd} (hr : F_26 B x1 = some o) (kr : res = (.inl (none), hput h b (Bd.cells b o), c, n)) : Ex d am_M26 scr (0, [some (.ref b), some (.int x1), none, none], [], (hput h b (Bd.cells b B)), c, n) res := by
  delta F_26 at hr
  refine x_b 2 (S2 := (2, [some (.ref b), some (.int x1), some (.int x1), none], [], (hput h b (Bd.cells b B)), c, n)) rfl ?_
  refine x_fg (Lq.s (Lq.n (Lq.s (Lq.s Lq.nil)))) ?_
  obtain ⟨B17, h16, hr⟩ := bd_some hr
  refine x_lw (P := P_26_2 h b c n ) (Q := fun x => Ex d am_M26 scr (PX_26_2 h b c n  x) res) (fun s o h1 ka kx => g_26_2 hd hb hh h1 ka kx) _ (x1, B) _ h16 ?_
  show Ex d am_M26 scr (70, [some (.ref b), none, none, none], [], (hput h b (Bd.cells b B17)), c, n) res
  refine x_ldan rfl rfl rfl (h_lt (i := 0) hb (by decide)) ?_
  refine x_b 1 (S2 := (72, [some (.ref b), none, none, none], [.ref b, .ref b], (hput h b (Bd.cells b B17)), c, n)) rfl ?_
  refine x_getf rfl rfl (h_lt (i := 0) hb (by decide)) (hp_at (i := 0) hh rfl rfl) rfl ?_
  refine x_b 2 (S2 := (77, [some (.ref b), none, none, none], [.int (B17.strategyCount - 1), .ref b], (hput h b (Bd.cells b B17)), c, n)) rfl ?_
  refine x_putf (H := (hput h b (Bd.cells b (B17.w_strategyCount (B17.strategyCount - 1))))) rfl rfl (h_lt (i := 0) hb (by decide)) (hp_at (i := 0) hh rfl rfl) ⟨(show 3 < 9 by decide), rfl, rfl, nofun⟩ (hp_set (i := 0) hh rfl (by decide) rfl) ?_
  cases hr
  rw [kr]
  exact x_ret rfl rfl rfl
theorem m_26 {h : AHp} {b : Nat} (hb : b + 6 ≤ am_SB) (hh : b + 6 ≤ h.length) {B : Bd} {x1 : Int32} {o : Bd} (hr : F_26 B x1 = some o) : Rn 3 26 [.ref b, .int x1] (hput h b (Bd.cells b B)) (.inl (none), hput h b (Bd.cells b o), 0, 0) :=
  x_meth (M := am_M26) rfl (show 2 ≤ 4 by decide) (f_26 (Nat.le_refl _) hb hh hr rfl)
def J_30_0_j37 (B : Bd) : Option (Int32) :=
  some 0
theorem j_30_0_j37 {d : Nat} (hd : 2 ≤ d) {scr : ASc} {res : ARe} {c n : Nat} {H : AHp} {b : Nat} {B : Bd} (hR : Rg H b (Bd.cells b B)) {o : Int32} (hr : J_30_0_j37 B = some o) (kr : res = (.inl (some (.int o)), H, c, n)) : Ex d am_M30 scr (37, [none, none, none, none, none], [], H, c, n) res := by
  delta J_30_0_j37 at hr
  refine x_b 1 (S2 := (38, [none, none, none, none, none], [.int 0], H, c, n)) rfl ?_
  cases hr
  rw [kr]
  exact x_ret rfl rfl (am_ret_z (by decide))
def J_30_0_j68 (B : Bd) (t0 : Int32) : Option (Int32) :=
  if t0 = 0 ∨ t0 = 1 then some t0 else none
theorem j_30_0_j68 {d : Nat} (hd : 2 ≤ d) {scr : ASc} {res : ARe} {c n : Nat} {H : AHp} {b : Nat} {B : Bd} {t0 : Int32} (hR : Rg H b (Bd.cells b B)) {o : Int32} (hr : J_30_0_j68 B t0 = some o) (kr : res = (.inl (some (.int o)), H, c, n)) : Ex d am_M30 scr (68, [none, none, none, none, none], [.int t0], H, c, n) res := by
  delta J_30_0_j68 at hr
  obtain ⟨h14, hr⟩ := itn_some hr
  cases hr
  rw [kr]
  exact x_ret rfl rfl (am_ret_z h14)
def J_30_0_j63 (B : Bd) : Option (Int32) :=
  J_30_0_j68 B 1
theorem j_30_0_j63 {d : Nat} (hd : 2 ≤ d) {scr : ASc} {res : ARe} {c n : Nat} {H : AHp} {b : Nat} {B : Bd} (hR : Rg H b (Bd.cells b B)) {o : Int32} (hr : J_30_0_j63 B = some o) (kr : res = (.inl (some (.int o)), H, c, n)) : Ex d am_M30 scr (63, [none, none, none, none, none], [], H, c, n) res := by
  delta J_30_0_j63 at hr
  refine x_b 2 (S2 := (68, [none, none, none, none, none], [.int 1], H, c, n)) rfl ?_
  refine x_fg (Lq.s (Lq.s (Lq.s (Lq.s (Lq.s Lq.nil))))) ?_
  exact j_30_0_j68 hd hR hr kr
/-- PebbleProofs$Board.isSound(II)Z -/
def F_30 (B : Bd) (x1 : Int32) (x2 : Int32) : Option (Int32) :=
  (F_28 B x1 x2).bind fun v2 =>
  if ¬ v2 = 0 then
    (F_29 B x1 x2).bind fun v5 =>
    if v5 = (-1) then
      J_30_0_j37 B
    else
      (F_6 B x2 v5).bind fun v9 =>
      if ¬ v9 = 0 then
        (ix x1 6).bind fun i11 =>
        if v5 = (B.targets i11) then
          J_30_0_j63 B
        else
          (F_28 B x1 v5).bind fun v16 =>
          if v16 < (2 * v2) then
            J_30_0_j68 B 0
          else
            J_30_0_j63 B
      else
        J_30_0_j37 B
  else
    some 1
theorem f_30 {d : Nat} (hd : 2 ≤ d) {scr : ASc} {res : ARe} {c n : Nat} {H : AHp} {b : Nat} {B : Bd} {x1 : Int32} {x2 : Int32} (hR : Rg H b (Bd.cells b B)) {o : Int32} (hr : F_30 B x1 x2 = some o) (kr : res = (.inl (some (.int o)), H, c, n)) : Ex d am_M30 scr (0, [some (.ref b), some (.int x1), some (.int x2), none, none], [], H, c, n) res := by
  delta F_30 at hr
  refine x_ldan rfl rfl rfl (hR.lt (i := 0) (show 0 < 6 by decide)) ?_
  refine x_b 2 (S2 := (3, [some (.ref b), some (.int x1), some (.int x2), none, none], [.int x2, .int x1, .ref b], H, c, n)) rfl ?_
  obtain ⟨v2, h1, hr⟩ := bd_some hr
  refine x_c0 (m_28 hR h1) rfl rfl rfl rfl (am_recv_v (hR.lt (i := 0) (show 0 < 6 by decide)) (hR.at (i := 0) rfl) rfl) (by omega) ?_
  refine x_b 2 (S2 := (8, [some (.ref b), some (.int x1), some (.int x2), some (.int v2), none], [.int v2], H, c, n)) rfl ?_
  rcases ite_some hr with ⟨h3, hr⟩ | ⟨h3, hr⟩
  · refine x_zt rfl rfl (decide_eq_true h3) ?_
    refine x_ldan rfl rfl rfl (hR.lt (i := 0) (show 0 < 6 by decide)) ?_
    refine x_b 2 (S2 := (16, [some (.ref b), some (.int x1), some (.int x2), some (.int v2), none], [.int x2, .int x1, .ref b], H, c, n)) rfl ?_
    obtain ⟨v5, h4, hr⟩ := bd_some hr
    refine x_c0 (m_29 hR h4) rfl rfl rfl rfl (am_recv_v (hR.lt (i := 0) (show 0 < 6 by decide)) (hR.at (i := 0) rfl) rfl) (by omega) ?_
    refine x_b 3 (S2 := (24, [some (.ref b), some (.int x1), some (.int x2), some (.int v2), some (.int v5)], [.int (-1), .int v5], H, c, n)) rfl ?_
    rcases ite_some hr with ⟨h6, hr⟩ | ⟨h6, hr⟩
    · refine x_ct rfl rfl (decide_eq_true h6) ?_
      refine x_fg (Lq.n (Lq.n (Lq.n (Lq.n (Lq.n Lq.nil))))) ?_
      exact j_30_0_j37 hd hR hr kr
    · refine x_cf rfl rfl (decide_eq_false h6) ?_
      refine x_ldan rfl rfl rfl (hR.lt (i := 0) (show 0 < 6 by decide)) ?_
      refine x_b 2 (S2 := (31, [some (.ref b), some (.int x1), some (.int x2), some (.int v2), some (.int v5)], [.int v5, .int x2, .ref b], H, c, n)) rfl ?_
      obtain ⟨v9, h8, hr⟩ := bd_some hr
      refine x_c0 (m_6 hR h8) rfl rfl rfl rfl (am_recv_v (hR.lt (i := 0) (show 0 < 6 by decide)) (hR.at (i := 0) rfl) rfl) (by omega) ?_
      rcases ite_some hr with ⟨h10, hr⟩ | ⟨h10, hr⟩
      · refine x_zt rfl rfl (decide_eq_true h10) ?_
        refine x_b 1 (S2 := (41, [some (.ref b), some (.int x1), some (.int x2), some (.int v2), some (.int v5)], [.int v5], H, c, n)) rfl ?_
        refine x_ldan rfl rfl rfl (hR.lt (i := 0) (show 0 < 6 by decide)) ?_
        refine x_getf rfl rfl (hR.lt (i := 0) (show 0 < 6 by decide)) (hR.at (i := 0) rfl) rfl ?_
        refine x_b 1 (S2 := (46, [some (.ref b), some (.int x1), some (.int x2), some (.int v2), some (.int v5)], [.int x1, .ref (b + 3), .int v5], H, c, n)) rfl ?_
        obtain ⟨i11, h12, hr⟩ := bd_some hr
        refine x_iald rfl rfl (hR.lt (i := 3) (show 3 < 6 by decide)) (hR.at (i := 3) rfl) h12 ?_
        rcases ite_some hr with ⟨h13, hr⟩ | ⟨h13, hr⟩
        · refine x_ct rfl rfl (decide_eq_true h13) ?_
          refine x_fg (Lq.n (Lq.n (Lq.n (Lq.n (Lq.n Lq.nil))))) ?_
          exact j_30_0_j63 hd hR hr kr
        · refine x_cf rfl rfl (decide_eq_false h13) ?_
          refine x_ldan rfl rfl rfl (hR.lt (i := 0) (show 0 < 6 by decide)) ?_
          refine x_b 2 (S2 := (54, [some (.ref b), some (.int x1), some (.int x2), some (.int v2), some (.int v5)], [.int v5, .int x1, .ref b], H, c, n)) rfl ?_
          obtain ⟨v16, h15, hr⟩ := bd_some hr
          refine x_c0 (m_28 hR h15) rfl rfl rfl rfl (am_recv_v (hR.lt (i := 0) (show 0 < 6 by decide)) (hR.at (i := 0) rfl) rfl) (by omega) ?_
          refine x_b 3 (S2 := (60, [some (.ref b), some (.int x1), some (.int x2), some (.int v2), some (.int v5)], [.int (2 * v2), .int v16], H, c, n)) rfl ?_
          rcases ite_some hr with ⟨h17, hr⟩ | ⟨h17, hr⟩
          · refine x_ct rfl rfl (decide_eq_true h17) ?_
            refine x_b 1 (S2 := (68, [some (.ref b), some (.int x1), some (.int x2), some (.int v2), some (.int v5)], [.int 0], H, c, n)) rfl ?_
            refine x_fg (Lq.n (Lq.n (Lq.n (Lq.n (Lq.n Lq.nil))))) ?_
            exact j_30_0_j68 hd hR hr kr
          · refine x_cf rfl rfl (decide_eq_false h17) ?_
            refine x_fg (Lq.n (Lq.n (Lq.n (Lq.n (Lq.n Lq.nil))))) ?_
            exact j_30_0_j63 hd hR hr kr
      · refine x_zf rfl rfl (decide_eq_false h10) ?_
        refine x_fg (Lq.n (Lq.n (Lq.n (Lq.n (Lq.n Lq.nil))))) ?_
        exact j_30_0_j37 hd hR hr kr
  · refine x_zf rfl rfl (decide_eq_false h3) ?_
    refine x_b 1 (S2 := (12, [some (.ref b), some (.int x1), some (.int x2), some (.int v2), none], [.int 1], H, c, n)) rfl ?_
    cases hr
    rw [kr]
    exact x_ret rfl rfl (am_ret_z (by decide))
theorem m_30 {H : AHp} {b : Nat} {B : Bd} {x1 : Int32} {x2 : Int32} (hR : Rg H b (Bd.cells b B)) {o : Int32} (hr : F_30 B x1 x2 = some o) : Rn 3 30 [.ref b, .int x1, .int x2] H (.inl (some (.int o)), H, 0, 0) :=
  x_meth (M := am_M30) rfl (show 3 ≤ 5 by decide) (f_30 (Nat.le_refl _) hR hr rfl)
abbrev P_31_2 (H : AHp) (b : Nat) (c n : Nat) (B : Bd) (x1 : Int32) (s : Int32) : ASt := (2, [some (.ref b), some (.int x1), some (.int s)], [], H, c, n)
abbrev PX_31_2 (H : AHp) (b : Nat) (c n : Nat) (B : Bd) (x1 : Int32) (s : Unit) : ASt := (27, [none, none, none], [], H, c, n)
def G_31_2 (B : Bd) (x1 : Int32) (s : Int32) : Option ((Int32) ⊕ (Unit) ⊕ (Int32)) := 
  match s with
  | x2 =>
    if B.vertices ≤ x2 then
      some (.inr (.inl ()))
    else
      (F_30 B x1 x2).bind fun v3 =>
      if ¬ v3 = 0 then
        some (.inl (x2 + 1))
      else
        some (.inr (.inr x2))
theorem g_31_2 {d : Nat} (hd : 3 ≤ d) {scr : ASc} {res : ARe} {c n : Nat} {H : AHp} {b : Nat} {B : Bd} {x1 : Int32} (hR : Rg H b (Bd.cells b B)) {s : Int32} {o : (Int32) ⊕ (Unit) ⊕ (Int32)} (hr : G_31_2 B x1 s = some o) (ka : ∀ s, o = .inl s → Ex d am_M31 scr (P_31_2 H b c n B x1 s) res) (kx : ∀ s, o = .inr (.inl s) → Ex d am_M31 scr (PX_31_2 H b c n B x1 s) res) (kr : ∀ r, o = .inr (.inr r) → res = (.inl (some (.int r)), H, c, n)) : Ex d am_M31 scr (P_31_2 H b c n B x1 s) res := by
  delta G_31_2 at hr
  show Ex d am_M31 scr (2, [some (.ref b), some (.int x1), some (.int s)], [], H, c, n) res
  refine x_b 1 (S2 := (3, [some (.ref b), some (.int x1), some (.int s)], [.int s], H, c, n)) rfl ?_
  refine x_ldan rfl rfl rfl (hR.lt (i := 0) (show 0 < 6 by decide)) ?_
  refine x_getf rfl rfl (hR.lt (i := 0) (show 0 < 6 by decide)) (hR.at (i := 0) rfl) rfl ?_
  rcases ite_some hr with ⟨h1, hr⟩ | ⟨h1, hr⟩
  · refine x_ct rfl rfl (decide_eq_true h1) ?_
    refine x_fg (Lq.n (Lq.n (Lq.n Lq.nil))) ?_
    exact kx _ (Option.some.inj hr).symm
  · refine x_cf rfl rfl (decide_eq_false h1) ?_
    refine x_ldan rfl rfl rfl (hR.lt (i := 0) (show 0 < 6 by decide)) ?_
    refine x_b 2 (S2 := (13, [some (.ref b), some (.int x1), some (.int s)], [.int s, .int x1, .ref b], H, c, n)) rfl ?_
    obtain ⟨v3, h2, hr⟩ := bd_some hr
    refine x_c0 (m_30 hR h2) rfl rfl rfl rfl (am_recv_v (hR.lt (i := 0) (show 0 < 6 by decide)) (hR.at (i := 0) rfl) rfl) (by omega) ?_
    rcases ite_some hr with ⟨h4, hr⟩ | ⟨h4, hr⟩
    · refine x_zt rfl rfl (decide_eq_true h4) ?_
      refine x_b 2 (S2 := (2, [some (.ref b), some (.int x1), some (.int (s + 1))], [], H, c, n)) rfl ?_
      refine x_fg (Lq.s (Lq.s (Lq.s Lq.nil))) ?_
      exact ka _ (Option.some.inj hr).symm
    · refine x_zf rfl rfl (decide_eq_false h4) ?_
      refine x_b 1 (S2 := (20, [some (.ref b), some (.int x1), some (.int s)], [.int s], H, c, n)) rfl ?_
      rw [kr _ (Option.some.inj hr).symm]
      exact x_ret rfl rfl am_ret_i
/-- PebbleProofs$Board.firstFault(I)I -/
def F_31 (B : Bd) (x1 : Int32) : Option (Int32) :=
  (lw (G_31_2 B x1) 200000 0).bind fun r =>
    match r with
    | .inr r7 => some r7
    | .inl _ =>
      some (-1)
theorem f_31 {d : Nat} (hd : 3 ≤ d) {scr : ASc} {res : ARe} {c n : Nat} {H : AHp} {b : Nat} {B : Bd} {x1 : Int32} (hR : Rg H b (Bd.cells b B)) {o : Int32} (hr : F_31 B x1 = some o) (kr : res = (.inl (some (.int o)), H, c, n)) : Ex d am_M31 scr (0, [some (.ref b), some (.int x1), none], [], H, c, n) res := by
  delta F_31 at hr
  refine x_b 2 (S2 := (2, [some (.ref b), some (.int x1), some (.int 0)], [], H, c, n)) rfl ?_
  refine x_fg (Lq.s (Lq.s (Lq.s Lq.nil))) ?_
  obtain ⟨o6, h5, hr⟩ := bd_some hr
  refine x_lw (P := P_31_2 H b c n B x1) (Q := fun x => match x with | .inl e => Ex d am_M31 scr (PX_31_2 H b c n B x1 e) res | .inr r => res = (.inl (some (.int r)), H, c, n)) (fun s o h1 ka kx => g_31_2 hd hR h1 ka (fun e he => kx (.inl e) he) (fun r he => kx (.inr r) he)) _ 0 _ h5 ?_
  rcases o6 with e | r7
  · show Ex d am_M31 scr (27, [none, none, none], [], H, c, n) res
    refine x_b 1 (S2 := (28, [none, none, none], [.int (-1)], H, c, n)) rfl ?_
    cases hr
    rw [kr]
    exact x_ret rfl rfl am_ret_i
  · cases hr; exact kr
theorem m_31 {H : AHp} {b : Nat} {B : Bd} {x1 : Int32} (hR : Rg H b (Bd.cells b B)) {o : Int32} (hr : F_31 B x1 = some o) : Rn 4 31 [.ref b, .int x1] H (.inl (some (.int o)), H, 0, 0) :=
  x_meth (M := am_M31) rfl (show 2 ≤ 3 by decide) (f_31 (Nat.le_refl _) hR hr rfl)
abbrev P_32_4 (H : AHp) (b : Nat) (c n : Nat) (B : Bd) (x1 : Int32) (s : Int32 × Int32) : ASt := (4, [some (.ref b), some (.int x1), some (.int s.1), some (.int s.2)], [], H, c, n)
abbrev PX_32_4 (H : AHp) (b : Nat) (c n : Nat) (B : Bd) (x1 : Int32) (s : Int32) : ASt := (27, [none, none, some (.int s), none], [], H, c, n)
def G_32_4 (B : Bd) (x1 : Int32) (s : Int32 × Int32) : Option ((Int32 × Int32) ⊕ (Int32)) := 
  match s with
  | (x2, x3) =>
    if B.vertices ≤ x3 then
      some (.inr x2)
    else
      (F_28 B x1 x3).bind fun v3 =>
      some (.inl ((x2 + v3), (x3 + 1)))
theorem g_32_4 {d : Nat} (hd : 2 ≤ d) {scr : ASc} {res : ARe} {c n : Nat} {H : AHp} {b : Nat} {B : Bd} {x1 : Int32} (hR : Rg H b (Bd.cells b B)) {s : Int32 × Int32} {o : (Int32 × Int32) ⊕ (Int32)} (hr : G_32_4 B x1 s = some o) (ka : ∀ s, o = .inl s → Ex d am_M32 scr (P_32_4 H b c n B x1 s) res) (kx : ∀ s, o = .inr s → Ex d am_M32 scr (PX_32_4 H b c n B x1 s) res) : Ex d am_M32 scr (P_32_4 H b c n B x1 s) res := by
  obtain ⟨x2, x3⟩ := s
  delta G_32_4 at hr
  show Ex d am_M32 scr (4, [some (.ref b), some (.int x1), some (.int x2), some (.int x3)], [], H, c, n) res
  refine x_b 1 (S2 := (5, [some (.ref b), some (.int x1), some (.int x2), some (.int x3)], [.int x3], H, c, n)) rfl ?_
  refine x_ldan rfl rfl rfl (hR.lt (i := 0) (show 0 < 6 by decide)) ?_
  refine x_getf rfl rfl (hR.lt (i := 0) (show 0 < 6 by decide)) (hR.at (i := 0) rfl) rfl ?_
  rcases ite_some hr with ⟨h1, hr⟩ | ⟨h1, hr⟩
  · refine x_ct rfl rfl (decide_eq_true h1) ?_
    refine x_fg (Lq.n (Lq.n (Lq.s (Lq.n Lq.nil)))) ?_
    exact kx _ (Option.some.inj hr).symm
  · refine x_cf rfl rfl (decide_eq_false h1) ?_
    refine x_b 1 (S2 := (13, [some (.ref b), some (.int x1), some (.int x2), some (.int x3)], [.int x2], H, c, n)) rfl ?_
    refine x_ldan rfl rfl rfl (hR.lt (i := 0) (show 0 < 6 by decide)) ?_
    refine x_b 2 (S2 := (16, [some (.ref b), some (.int x1), some (.int x2), some (.int x3)], [.int x3, .int x1, .ref b, .int x2], H, c, n)) rfl ?_
    obtain ⟨v3, h2, hr⟩ := bd_some hr
    refine x_c0 (m_28 hR h2) rfl rfl rfl rfl (am_recv_v (hR.lt (i := 0) (show 0 < 6 by decide)) (hR.at (i := 0) rfl) rfl) (by omega) ?_
    refine x_b 4 (S2 := (4, [some (.ref b), some (.int x1), some (.int (x2 + v3)), some (.int (x3 + 1))], [], H, c, n)) rfl ?_
    refine x_fg (Lq.s (Lq.s (Lq.s (Lq.s Lq.nil)))) ?_
    exact ka _ (Option.some.inj hr).symm
/-- PebbleProofs$Board.weightOfAll(I)I -/
def F_32 (B : Bd) (x1 : Int32) : Option (Int32) :=
  (lw (G_32_4 B x1) 200000 (0, 0)).bind fun v5 =>
  some v5
theorem f_32 {d : Nat} (hd : 2 ≤ d) {scr : ASc} {res : ARe} {c n : Nat} {H : AHp} {b : Nat} {B : Bd} {x1 : Int32} (hR : Rg H b (Bd.cells b B)) {o : Int32} (hr : F_32 B x1 = some o) (kr : res = (.inl (some (.int o)), H, c, n)) : Ex d am_M32 scr (0, [some (.ref b), some (.int x1), none, none], [], H, c, n) res := by
  delta F_32 at hr
  refine x_b 4 (S2 := (4, [some (.ref b), some (.int x1), some (.int 0), some (.int 0)], [], H, c, n)) rfl ?_
  refine x_fg (Lq.s (Lq.s (Lq.s (Lq.s Lq.nil)))) ?_
  obtain ⟨v5, h4, hr⟩ := bd_some hr
  refine x_lw (P := P_32_4 H b c n B x1) (Q := fun x => Ex d am_M32 scr (PX_32_4 H b c n B x1 x) res) (fun s o h1 ka kx => g_32_4 hd hR h1 ka kx) _ (0, 0) _ h4 ?_
  show Ex d am_M32 scr (27, [none, none, some (.int v5), none], [], H, c, n) res
  refine x_b 1 (S2 := (28, [none, none, some (.int v5), none], [.int v5], H, c, n)) rfl ?_
  cases hr
  rw [kr]
  exact x_ret rfl rfl am_ret_i
theorem m_32 {H : AHp} {b : Nat} {B : Bd} {x1 : Int32} (hR : Rg H b (Bd.cells b B)) {o : Int32} (hr : F_32 B x1 = some o) : Rn 3 32 [.ref b, .int x1] H (.inl (some (.int o)), H, 0, 0) :=
  x_meth (M := am_M32) rfl (show 2 ≤ 4 by decide) (f_32 (Nat.le_refl _) hR hr rfl)
abbrev P_33_4 (H : AHp) (b : Nat) (c n : Nat) (B : Bd) (x1 : Int32) (s : Int32 × Int32) : ASt := (4, [some (.ref b), some (.int x1), some (.int s.1), some (.int s.2)], [], H, c, n)
abbrev PX_33_4 (H : AHp) (b : Nat) (c n : Nat) (B : Bd) (x1 : Int32) (s : Int32) : ASt := (34, [none, none, some (.int s), none], [], H, c, n)
def G_33_4 (B : Bd) (x1 : Int32) (s : Int32 × Int32) : Option ((Int32 × Int32) ⊕ (Int32)) := 
  match s with
  | (x2, x3) =>
    if B.vertices ≤ x3 then
      some (.inr x2)
    else
      (F_28 B x1 x3).bind fun v3 =>
      (ix x3 6).bind fun i4 =>
      some (.inl ((x2 + (v3 * (B.pile i4))), (x3 + 1)))
theorem g_33_4 {d : Nat} (hd : 2 ≤ d) {scr : ASc} {res : ARe} {c n : Nat} {H : AHp} {b : Nat} {B : Bd} {x1 : Int32} (hR : Rg H b (Bd.cells b B)) {s : Int32 × Int32} {o : (Int32 × Int32) ⊕ (Int32)} (hr : G_33_4 B x1 s = some o) (ka : ∀ s, o = .inl s → Ex d am_M33 scr (P_33_4 H b c n B x1 s) res) (kx : ∀ s, o = .inr s → Ex d am_M33 scr (PX_33_4 H b c n B x1 s) res) : Ex d am_M33 scr (P_33_4 H b c n B x1 s) res := by
  obtain ⟨x2, x3⟩ := s
  delta G_33_4 at hr
  show Ex d am_M33 scr (4, [some (.ref b), some (.int x1), some (.int x2), some (.int x3)], [], H, c, n) res
  refine x_b 1 (S2 := (5, [some (.ref b), some (.int x1), some (.int x2), some (.int x3)], [.int x3], H, c, n)) rfl ?_
  refine x_ldan rfl rfl rfl (hR.lt (i := 0) (show 0 < 6 by decide)) ?_
  refine x_getf rfl rfl (hR.lt (i := 0) (show 0 < 6 by decide)) (hR.at (i := 0) rfl) rfl ?_
  rcases ite_some hr with ⟨h1, hr⟩ | ⟨h1, hr⟩
  · refine x_ct rfl rfl (decide_eq_true h1) ?_
    refine x_fg (Lq.n (Lq.n (Lq.s (Lq.n Lq.nil)))) ?_
    exact kx _ (Option.some.inj hr).symm
  · refine x_cf rfl rfl (decide_eq_false h1) ?_
    refine x_b 1 (S2 := (13, [some (.ref b), some (.int x1), some (.int x2), some (.int x3)], [.int x2], H, c, n)) rfl ?_
    refine x_ldan rfl rfl rfl (hR.lt (i := 0) (show 0 < 6 by decide)) ?_
    refine x_b 2 (S2 := (16, [some (.ref b), some (.int x1), some (.int x2), some (.int x3)], [.int x3, .int x1, .ref b, .int x2], H, c, n)) rfl ?_
    obtain ⟨v3, h2, hr⟩ := bd_some hr
    refine x_c0 (m_28 hR h2) rfl rfl rfl rfl (am_recv_v (hR.lt (i := 0) (show 0 < 6 by decide)) (hR.at (i := 0) rfl) rfl) (by omega) ?_
    refine x_ldan rfl rfl rfl (hR.lt (i := 0) (show 0 < 6 by decide)) ?_
    refine x_getf rfl rfl (hR.lt (i := 0) (show 0 < 6 by decide)) (hR.at (i := 0) rfl) rfl ?_
    refine x_b 1 (S2 := (24, [some (.ref b), some (.int x1), some (.int x2), some (.int x3)], [.int x3, .ref (b + 1), .int v3, .int x2], H, c, n)) rfl ?_
    obtain ⟨i4, h5, hr⟩ := bd_some hr
    refine x_iald rfl rfl (hR.lt (i := 1) (show 1 < 6 by decide)) (hR.at (i := 1) rfl) h5 ?_
    refine x_b 5 (S2 := (4, [some (.ref b), some (.int x1), some (.int (x2 + (v3 * (B.pile i4)))), some (.int (x3 + 1))], [], H, c, n)) rfl ?_
    refine x_fg (Lq.s (Lq.s (Lq.s (Lq.s Lq.nil)))) ?_
    exact ka _ (Option.some.inj hr).symm
/-- PebbleProofs$Board.weightOfPile(I)I -/
def F_33 (B : Bd) (x1 : Int32) : Option (Int32) :=
  (lw (G_33_4 B x1) 200000 (0, 0)).bind fun v7 =>
  some v7
theorem f_33 {d : Nat} (hd : 2 ≤ d) {scr : ASc} {res : ARe} {c n : Nat} {H : AHp} {b : Nat} {B : Bd} {x1 : Int32} (hR : Rg H b (Bd.cells b B)) {o : Int32} (hr : F_33 B x1 = some o) (kr : res = (.inl (some (.int o)), H, c, n)) : Ex d am_M33 scr (0, [some (.ref b), some (.int x1), none, none], [], H, c, n) res := by
  delta F_33 at hr
  refine x_b 4 (S2 := (4, [some (.ref b), some (.int x1), some (.int 0), some (.int 0)], [], H, c, n)) rfl ?_
  refine x_fg (Lq.s (Lq.s (Lq.s (Lq.s Lq.nil)))) ?_
  obtain ⟨v7, h6, hr⟩ := bd_some hr
  refine x_lw (P := P_33_4 H b c n B x1) (Q := fun x => Ex d am_M33 scr (PX_33_4 H b c n B x1 x) res) (fun s o h1 ka kx => g_33_4 hd hR h1 ka kx) _ (0, 0) _ h6 ?_
  show Ex d am_M33 scr (34, [none, none, some (.int v7), none], [], H, c, n) res
  refine x_b 1 (S2 := (35, [none, none, some (.int v7), none], [.int v7], H, c, n)) rfl ?_
  cases hr
  rw [kr]
  exact x_ret rfl rfl am_ret_i
theorem m_33 {H : AHp} {b : Nat} {B : Bd} {x1 : Int32} (hR : Rg H b (Bd.cells b B)) {o : Int32} (hr : F_33 B x1 = some o) : Rn 3 33 [.ref b, .int x1] H (.inl (some (.int o)), H, 0, 0) :=
  x_meth (M := am_M33) rfl (show 2 ≤ 4 by decide) (f_33 (Nat.le_refl _) hR hr rfl)
abbrev P_34_4 (H : AHp) (b : Nat) (c n : Nat) (B : Bd) (x1 : Int32) (s : Int32 × Int32) : ASt := (4, [some (.ref b), some (.int x1), some (.int s.1), some (.int s.2)], [], H, c, n)
abbrev PX_34_4 (H : AHp) (b : Nat) (c n : Nat) (B : Bd) (x1 : Int32) (s : Int32) : ASt := (43, [none, none, some (.int s), none], [], H, c, n)
def J_34_4_j37 (B : Bd) (x1 : Int32) (x2 : Int32) (x3 : Int32) : Option ((Int32 × Int32) ⊕ (Int32)) :=
  some (.inl (x2, (x3 + 1)))
theorem j_34_4_j37 {d : Nat} (hd : 4 ≤ d) {scr : ASc} {res : ARe} {c n : Nat} {H : AHp} {b : Nat} {B : Bd} {x1 : Int32} {x2 : Int32} {x3 : Int32} (hR : Rg H b (Bd.cells b B)) {o : (Int32 × Int32) ⊕ (Int32)} (hr : J_34_4_j37 B x1 x2 x3 = some o) (ka : ∀ s, o = .inl s → Ex d am_M34 scr (P_34_4 H b c n B x1 s) res) (kx : ∀ s, o = .inr s → Ex d am_M34 scr (PX_34_4 H b c n B x1 s) res) : Ex d am_M34 scr (37, [some (.ref b), some (.int x1), some (.int x2), some (.int x3)], [], H, c, n) res := by
  delta J_34_4_j37 at hr
  refine x_b 2 (S2 := (4, [some (.ref b), some (.int x1), some (.int x2), some (.int (x3 + 1))], [], H, c, n)) rfl ?_
  refine x_fg (Lq.s (Lq.s (Lq.s (Lq.s Lq.nil)))) ?_
  exact ka _ (Option.some.inj hr).symm
def G_34_4 (B : Bd) (x1 : Int32) (s : Int32 × Int32) : Option ((Int32 × Int32) ⊕ (Int32)) := 
  match s with
  | (x2, x3) =>
    if B.strategyCount ≤ x3 then
      some (.inr x2)
    else
      (ix x3 6).bind fun i2 =>
      if ¬ (B.targets i2) = x1 then
        J_34_4_j37 B x1 x2 x3
      else
        (F_31 B x3).bind fun v6 =>
        if ¬ v6 = (-1) then
          J_34_4_j37 B x1 x2 x3
        else
          J_34_4_j37 B x1 (x2 ||| (1 <<< (x3 &&& 31))) x3
theorem g_34_4 {d : Nat} (hd : 4 ≤ d) {scr : ASc} {res : ARe} {c n : Nat} {H : AHp} {b : Nat} {B : Bd} {x1 : Int32} (hR : Rg H b (Bd.cells b B)) {s : Int32 × Int32} {o : (Int32 × Int32) ⊕ (Int32)} (hr : G_34_4 B x1 s = some o) (ka : ∀ s, o = .inl s → Ex d am_M34 scr (P_34_4 H b c n B x1 s) res) (kx : ∀ s, o = .inr s → Ex d am_M34 scr (PX_34_4 H b c n B x1 s) res) : Ex d am_M34 scr (P_34_4 H b c n B x1 s) res := by
  obtain ⟨x2, x3⟩ := s
  delta G_34_4 at hr
  show Ex d am_M34 scr (4, [some (.ref b), some (.int x1), some (.int x2), some (.int x3)], [], H, c, n) res
  refine x_b 1 (S2 := (5, [some (.ref b), some (.int x1), some (.int x2), some (.int x3)], [.int x3], H, c, n)) rfl ?_
  refine x_ldan rfl rfl rfl (hR.lt (i := 0) (show 0 < 6 by decide)) ?_
  refine x_getf rfl rfl (hR.lt (i := 0) (show 0 < 6 by decide)) (hR.at (i := 0) rfl) rfl ?_
  rcases ite_some hr with ⟨h1, hr⟩ | ⟨h1, hr⟩
  · refine x_ct rfl rfl (decide_eq_true h1) ?_
    refine x_fg (Lq.n (Lq.n (Lq.s (Lq.n Lq.nil)))) ?_
    exact kx _ (Option.some.inj hr).symm
  · refine x_cf rfl rfl (decide_eq_false h1) ?_
    refine x_ldan rfl rfl rfl (hR.lt (i := 0) (show 0 < 6 by decide)) ?_
    refine x_getf rfl rfl (hR.lt (i := 0) (show 0 < 6 by decide)) (hR.at (i := 0) rfl) rfl ?_
    refine x_b 1 (S2 := (17, [some (.ref b), some (.int x1), some (.int x2), some (.int x3)], [.int x3, .ref (b + 3)], H, c, n)) rfl ?_
    obtain ⟨i2, h3, hr⟩ := bd_some hr
    refine x_iald rfl rfl (hR.lt (i := 3) (show 3 < 6 by decide)) (hR.at (i := 3) rfl) h3 ?_
    refine x_b 1 (S2 := (19, [some (.ref b), some (.int x1), some (.int x2), some (.int x3)], [.int x1, .int (B.targets i2)], H, c, n)) rfl ?_
    rcases ite_some hr with ⟨h4, hr⟩ | ⟨h4, hr⟩
    · refine x_ct rfl rfl (decide_eq_true h4) ?_
      refine x_fg (Lq.s (Lq.s (Lq.s (Lq.s Lq.nil)))) ?_
      exact j_34_4_j37 hd hR hr ka kx
    · refine x_cf rfl rfl (decide_eq_false h4) ?_
      refine x_ldan rfl rfl rfl (hR.lt (i := 0) (show 0 < 6 by decide)) ?_
      refine x_b 1 (S2 := (24, [some (.ref b), some (.int x1), some (.int x2), some (.int x3)], [.int x3, .ref b], H, c, n)) rfl ?_
      obtain ⟨v6, h5, hr⟩ := bd_some hr
      refine x_c0 (m_31 hR h5) rfl rfl rfl rfl (am_recv_v (hR.lt (i := 0) (show 0 < 6 by decide)) (hR.at (i := 0) rfl) rfl) (by omega) ?_
      refine x_b 1 (S2 := (28, [some (.ref b), some (.int x1), some (.int x2), some (.int x3)], [.int (-1), .int v6], H, c, n)) rfl ?_
      rcases ite_some hr with ⟨h7, hr⟩ | ⟨h7, hr⟩
      · refine x_ct rfl rfl (decide_eq_true h7) ?_
        refine x_fg (Lq.s (Lq.s (Lq.s (Lq.s Lq.nil)))) ?_
        exact j_34_4_j37 hd hR hr ka kx
      · refine x_cf rfl rfl (decide_eq_false h7) ?_
        refine x_b 6 (S2 := (37, [some (.ref b), some (.int x1), some (.int (x2 ||| (1 <<< (x3 &&& 31)))), some (.int x3)], [], H, c, n)) rfl ?_
        refine x_fg (Lq.s (Lq.s (Lq.s (Lq.s Lq.nil)))) ?_
        exact j_34_4_j37 hd hR hr ka kx
/-- PebbleProofs$Board.validStrategies(I)I -/
def F_34 (B : Bd) (x1 : Int32) : Option (Int32) :=
  (lw (G_34_4 B x1) 200000 (0, 0)).bind fun v9 =>
  some v9
theorem f_34 {d : Nat} (hd : 4 ≤ d) {scr : ASc} {res : ARe} {c n : Nat} {H : AHp} {b : Nat} {B : Bd} {x1 : Int32} (hR : Rg H b (Bd.cells b B)) {o : Int32} (hr : F_34 B x1 = some o) (kr : res = (.inl (some (.int o)), H, c, n)) : Ex d am_M34 scr (0, [some (.ref b), some (.int x1), none, none], [], H, c, n) res := by
  delta F_34 at hr
  refine x_b 4 (S2 := (4, [some (.ref b), some (.int x1), some (.int 0), some (.int 0)], [], H, c, n)) rfl ?_
  refine x_fg (Lq.s (Lq.s (Lq.s (Lq.s Lq.nil)))) ?_
  obtain ⟨v9, h8, hr⟩ := bd_some hr
  refine x_lw (P := P_34_4 H b c n B x1) (Q := fun x => Ex d am_M34 scr (PX_34_4 H b c n B x1 x) res) (fun s o h1 ka kx => g_34_4 hd hR h1 ka kx) _ (0, 0) _ h8 ?_
  show Ex d am_M34 scr (43, [none, none, some (.int v9), none], [], H, c, n) res
  refine x_b 1 (S2 := (44, [none, none, some (.int v9), none], [.int v9], H, c, n)) rfl ?_
  cases hr
  rw [kr]
  exact x_ret rfl rfl am_ret_i
theorem m_34 {H : AHp} {b : Nat} {B : Bd} {x1 : Int32} (hR : Rg H b (Bd.cells b B)) {o : Int32} (hr : F_34 B x1 = some o) : Rn 5 34 [.ref b, .int x1] H (.inl (some (.int o)), H, 0, 0) :=
  x_meth (M := am_M34) rfl (show 2 ≤ 4 by decide) (f_34 (Nat.le_refl _) hR hr rfl)
abbrev P_35_5 (H : AHp) (b : Nat) (c n : Nat) (B : Bd) (x1 : Int32) (x2 : Int32) (s : Int32 × Int32) : ASt := (5, [some (.ref b), some (.int x1), some (.int x2), some (.int s.1), some (.int s.2)], [], H, c, n)
abbrev PX_35_5 (H : AHp) (b : Nat) (c n : Nat) (B : Bd) (x1 : Int32) (x2 : Int32) (s : Int32) : ASt := (39, [none, none, none, some (.int s), none], [], H, c, n)
def J_35_5_j33 (B : Bd) (x1 : Int32) (x2 : Int32) (x3 : Int32) (x4 : Int32) : Option ((Int32 × Int32) ⊕ (Int32)) :=
  some (.inl (x3, (x4 + 1)))
theorem j_35_5_j33 {d : Nat} (hd : 2 ≤ d) {scr : ASc} {res : ARe} {c n : Nat} {H : AHp} {b : Nat} {B : Bd} {x1 : Int32} {x2 : Int32} {x3 : Int32} {x4 : Int32} (hR : Rg H b (Bd.cells b B)) {o : (Int32 × Int32) ⊕ (Int32)} (hr : J_35_5_j33 B x1 x2 x3 x4 = some o) (ka : ∀ s, o = .inl s → Ex d am_M35 scr (P_35_5 H b c n B x1 x2 s) res) (kx : ∀ s, o = .inr s → Ex d am_M35 scr (PX_35_5 H b c n B x1 x2 s) res) : Ex d am_M35 scr (33, [some (.ref b), some (.int x1), some (.int x2), some (.int x3), some (.int x4)], [], H, c, n) res := by
  delta J_35_5_j33 at hr
  refine x_b 2 (S2 := (5, [some (.ref b), some (.int x1), some (.int x2), some (.int x3), some (.int (x4 + 1))], [], H, c, n)) rfl ?_
  refine x_fg (Lq.s (Lq.s (Lq.s (Lq.s (Lq.s Lq.nil))))) ?_
  exact ka _ (Option.some.inj hr).symm
def G_35_5 (B : Bd) (x1 : Int32) (x2 : Int32) (s : Int32 × Int32) : Option ((Int32 × Int32) ⊕ (Int32)) := 
  match s with
  | (x3, x4) =>
    if B.strategyCount ≤ x4 then
      some (.inr x3)
    else
      if ((x1 >>> (x4 &&& 31)) &&& 1) = 0 then
        J_35_5_j33 B x1 x2 x3 x4
      else
        (F_28 B x4 x2).bind fun v4 =>
        J_35_5_j33 B x1 x2 (x3 + v4) x4
theorem g_35_5 {d : Nat} (hd : 2 ≤ d) {scr : ASc} {res : ARe} {c n : Nat} {H : AHp} {b : Nat} {B : Bd} {x1 : Int32} {x2 : Int32} (hR : Rg H b (Bd.cells b B)) {s : Int32 × Int32} {o : (Int32 × Int32) ⊕ (Int32)} (hr : G_35_5 B x1 x2 s = some o) (ka : ∀ s, o = .inl s → Ex d am_M35 scr (P_35_5 H b c n B x1 x2 s) res) (kx : ∀ s, o = .inr s → Ex d am_M35 scr (PX_35_5 H b c n B x1 x2 s) res) : Ex d am_M35 scr (P_35_5 H b c n B x1 x2 s) res := by
  obtain ⟨x3, x4⟩ := s
  delta G_35_5 at hr
  show Ex d am_M35 scr (5, [some (.ref b), some (.int x1), some (.int x2), some (.int x3), some (.int x4)], [], H, c, n) res
  refine x_b 1 (S2 := (7, [some (.ref b), some (.int x1), some (.int x2), some (.int x3), some (.int x4)], [.int x4], H, c, n)) rfl ?_
  refine x_ldan rfl rfl rfl (hR.lt (i := 0) (show 0 < 6 by decide)) ?_
  refine x_getf rfl rfl (hR.lt (i := 0) (show 0 < 6 by decide)) (hR.at (i := 0) rfl) rfl ?_
  rcases ite_some hr with ⟨h1, hr⟩ | ⟨h1, hr⟩
  · refine x_ct rfl rfl (decide_eq_true h1) ?_
    refine x_fg (Lq.n (Lq.n (Lq.n (Lq.s (Lq.n Lq.nil))))) ?_
    exact kx _ (Option.some.inj hr).symm
  · refine x_cf rfl rfl (decide_eq_false h1) ?_
    refine x_b 5 (S2 := (20, [some (.ref b), some (.int x1), some (.int x2), some (.int x3), some (.int x4)], [.int ((x1 >>> (x4 &&& 31)) &&& 1)], H, c, n)) rfl ?_
    rcases ite_some hr with ⟨h2, hr⟩ | ⟨h2, hr⟩
    · refine x_zt rfl rfl (decide_eq_true h2) ?_
      refine x_fg (Lq.s (Lq.s (Lq.s (Lq.s (Lq.s Lq.nil))))) ?_
      exact j_35_5_j33 hd hR hr ka kx
    · refine x_zf rfl rfl (decide_eq_false h2) ?_
      refine x_b 1 (S2 := (24, [some (.ref b), some (.int x1), some (.int x2), some (.int x3), some (.int x4)], [.int x3], H, c, n)) rfl ?_
      refine x_ldan rfl rfl rfl (hR.lt (i := 0) (show 0 < 6 by decide)) ?_
      refine x_b 2 (S2 := (28, [some (.ref b), some (.int x1), some (.int x2), some (.int x3), some (.int x4)], [.int x2, .int x4, .ref b, .int x3], H, c, n)) rfl ?_
      obtain ⟨v4, h3, hr⟩ := bd_some hr
      refine x_c0 (m_28 hR h3) rfl rfl rfl rfl (am_recv_v (hR.lt (i := 0) (show 0 < 6 by decide)) (hR.at (i := 0) rfl) rfl) (by omega) ?_
      refine x_b 2 (S2 := (33, [some (.ref b), some (.int x1), some (.int x2), some (.int (x3 + v4)), some (.int x4)], [], H, c, n)) rfl ?_
      refine x_fg (Lq.s (Lq.s (Lq.s (Lq.s (Lq.s Lq.nil))))) ?_
      exact j_35_5_j33 hd hR hr ka kx
/-- PebbleProofs$Board.weightIn(II)I -/
def F_35 (B : Bd) (x1 : Int32) (x2 : Int32) : Option (Int32) :=
  (lw (G_35_5 B x1 x2) 200000 (0, 0)).bind fun v6 =>
  some v6
theorem f_35 {d : Nat} (hd : 2 ≤ d) {scr : ASc} {res : ARe} {c n : Nat} {H : AHp} {b : Nat} {B : Bd} {x1 : Int32} {x2 : Int32} (hR : Rg H b (Bd.cells b B)) {o : Int32} (hr : F_35 B x1 x2 = some o) (kr : res = (.inl (some (.int o)), H, c, n)) : Ex d am_M35 scr (0, [some (.ref b), some (.int x1), some (.int x2), none, none], [], H, c, n) res := by
  delta F_35 at hr
  refine x_b 4 (S2 := (5, [some (.ref b), some (.int x1), some (.int x2), some (.int 0), some (.int 0)], [], H, c, n)) rfl ?_
  refine x_fg (Lq.s (Lq.s (Lq.s (Lq.s (Lq.s Lq.nil))))) ?_
  obtain ⟨v6, h5, hr⟩ := bd_some hr
  refine x_lw (P := P_35_5 H b c n B x1 x2) (Q := fun x => Ex d am_M35 scr (PX_35_5 H b c n B x1 x2 x) res) (fun s o h1 ka kx => g_35_5 hd hR h1 ka kx) _ (0, 0) _ h5 ?_
  show Ex d am_M35 scr (39, [none, none, none, some (.int v6), none], [], H, c, n) res
  refine x_b 1 (S2 := (40, [none, none, none, some (.int v6), none], [.int v6], H, c, n)) rfl ?_
  cases hr
  rw [kr]
  exact x_ret rfl rfl am_ret_i
theorem m_35 {H : AHp} {b : Nat} {B : Bd} {x1 : Int32} {x2 : Int32} (hR : Rg H b (Bd.cells b B)) {o : Int32} (hr : F_35 B x1 x2 = some o) : Rn 3 35 [.ref b, .int x1, .int x2] H (.inl (some (.int o)), H, 0, 0) :=
  x_meth (M := am_M35) rfl (show 3 ≤ 5 by decide) (f_35 (Nat.le_refl _) hR hr rfl)
