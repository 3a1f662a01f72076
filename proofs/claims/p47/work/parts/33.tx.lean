/-! ===== STAGE A: SETUP TEXT (by wip/p47/genw.py) ===== -/
abbrev P_64_3 (h : AHp) (b : Nat) (c n : Nat) (x1 : Int32) (s : Int32 × Tx) : ASt := (3, [some (.ref b), some (.int x1), some (.int s.1), none], [], (hput h b (Tx.cells b s.2)), c, n)
abbrev PX_64_3 (h : AHp) (b : Nat) (c n : Nat) (x1 : Int32) (s : Tx) : ASt := (55, [none, none, none, none], [], (hput h b (Tx.cells b s)), c, n)
def J_64_3_j49 (B : Tx) (x1 : Int32) (x2 : Int32) : Option ((Int32 × Tx) ⊕ (Tx)) :=
  some (.inl ((x2 + (-8)), B))
theorem j_64_3_j49 {d : Nat} (hd : 1 ≤ d) {scr : ASc} {res : ARe} {c n : Nat} {h : AHp} {b : Nat} (hb : b + 8 ≤ am_SB) (hh : b + 8 ≤ h.length) {B : Tx} {x1 : Int32} {x2 : Int32} {o : (Int32 × Tx) ⊕ (Tx)} (hr : J_64_3_j49 B x1 x2 = some o) (ka : ∀ s, o = .inl s → Ex d am_M64 scr (P_64_3 h b c n x1 s) res) (kx : ∀ s, o = .inr s → Ex d am_M64 scr (PX_64_3 h b c n x1 s) res) : Ex d am_M64 scr (49, [some (.ref b), some (.int x1), some (.int x2), none], [], (hput h b (Tx.cells b B)), c, n) res := by
  delta J_64_3_j49 at hr
  refine x_b 2 (S2 := (3, [some (.ref b), some (.int x1), some (.int (x2 + (-8))), none], [], (hput h b (Tx.cells b B)), c, n)) rfl ?_
  refine x_fg (Lq.s (Lq.s (Lq.s (Lq.s Lq.nil)))) ?_
  exact ka ((x2 + (-8)), B) (Option.some.inj hr).symm
def G_64_3 (x1 : Int32) (s : Int32 × Tx) : Option ((Int32 × Tx) ⊕ (Tx)) := 
  match s with
  | (x2, B) =>
    if x2 < 0 then
      some (.inr B)
    else
      if ((x1 >>> (x2 &&& 31)) &&& 255) = 0 then
        J_64_3_j49 B x1 x2
      else
        if 400 ≤ B.length then
          J_64_3_j49 B x1 x2
        else
          (ix B.length 400).bind fun i4 =>
          (some (B.w_bytes (upd B.bytes i4 ((x1 >>> (x2 &&& 31)) &&& 255)))).bind fun B6 =>
          (some (B6.w_length (B6.length + 1))).bind fun B8 =>
          J_64_3_j49 B8 x1 x2
theorem g_64_3 {d : Nat} (hd : 1 ≤ d) {scr : ASc} {res : ARe} {c n : Nat} {h : AHp} {b : Nat} (hb : b + 8 ≤ am_SB) (hh : b + 8 ≤ h.length) {x1 : Int32} {s : Int32 × Tx} {o : (Int32 × Tx) ⊕ (Tx)} (hr : G_64_3 x1 s = some o) (ka : ∀ s, o = .inl s → Ex d am_M64 scr (P_64_3 h b c n x1 s) res) (kx : ∀ s, o = .inr s → Ex d am_M64 scr (PX_64_3 h b c n x1 s) res) : Ex d am_M64 scr (P_64_3 h b c n x1 s) res := by
  obtain ⟨x2, B⟩ := s
  delta G_64_3 at hr
  show Ex d am_M64 scr (3, [some (.ref b), some (.int x1), some (.int x2), none], [], (hput h b (Tx.cells b B)), c, n) res
  refine x_b 1 (S2 := (4, [some (.ref b), some (.int x1), some (.int x2), none], [.int x2], (hput h b (Tx.cells b B)), c, n)) rfl ?_
  rcases ite_some hr with ⟨h1, hr⟩ | ⟨h1, hr⟩
  · refine x_zt rfl rfl (decide_eq_true h1) ?_
    refine x_fg (Lq.n (Lq.n (Lq.n (Lq.s Lq.nil)))) ?_
    exact kx B (Option.some.inj hr).symm
  · refine x_zf rfl rfl (decide_eq_false h1) ?_
    refine x_b 7 (S2 := (16, [some (.ref b), some (.int x1), some (.int x2), some (.int ((x1 >>> (x2 &&& 31)) &&& 255))], [.int ((x1 >>> (x2 &&& 31)) &&& 255)], (hput h b (Tx.cells b B)), c, n)) rfl ?_
    rcases ite_some hr with ⟨h2, hr⟩ | ⟨h2, hr⟩
    · refine x_zt rfl rfl (decide_eq_true h2) ?_
      refine x_fg (Lq.s (Lq.s (Lq.s (Lq.n Lq.nil)))) ?_
      exact j_64_3_j49 hd hb hh hr ka kx
    · refine x_zf rfl rfl (decide_eq_false h2) ?_
      refine x_ldan rfl rfl rfl ((hp_rg (L := Tx.cells b B) hb hh rfl).lt (i := 0) (show 0 < 8 by decide)) ?_
      refine x_getf rfl rfl ((hp_rg (L := Tx.cells b B) hb hh rfl).lt (i := 0) (show 0 < 8 by decide)) ((hp_rg (L := Tx.cells b B) hb hh rfl).at (i := 0) rfl) rfl ?_
      refine x_b 1 (S2 := (26, [some (.ref b), some (.int x1), some (.int x2), some (.int ((x1 >>> (x2 &&& 31)) &&& 255))], [.int 400, .int B.length], (hput h b (Tx.cells b B)), c, n)) rfl ?_
      rcases ite_some hr with ⟨h3, hr⟩ | ⟨h3, hr⟩
      · refine x_ct rfl rfl (decide_eq_true h3) ?_
        refine x_fg (Lq.s (Lq.s (Lq.s (Lq.n Lq.nil)))) ?_
        exact j_64_3_j49 hd hb hh hr ka kx
      · refine x_cf rfl rfl (decide_eq_false h3) ?_
        refine x_ldan rfl rfl rfl ((hp_rg (L := Tx.cells b B) hb hh rfl).lt (i := 0) (show 0 < 8 by decide)) ?_
        refine x_getf rfl rfl ((hp_rg (L := Tx.cells b B) hb hh rfl).lt (i := 0) (show 0 < 8 by decide)) ((hp_rg (L := Tx.cells b B) hb hh rfl).at (i := 0) rfl) rfl ?_
        refine x_ldan rfl rfl rfl ((hp_rg (L := Tx.cells b B) hb hh rfl).lt (i := 0) (show 0 < 8 by decide)) ?_
        refine x_getf rfl rfl ((hp_rg (L := Tx.cells b B) hb hh rfl).lt (i := 0) (show 0 < 8 by decide)) ((hp_rg (L := Tx.cells b B) hb hh rfl).at (i := 0) rfl) rfl ?_
        refine x_b 1 (S2 := (38, [some (.ref b), some (.int x1), some (.int x2), some (.int ((x1 >>> (x2 &&& 31)) &&& 255))], [.int ((x1 >>> (x2 &&& 31)) &&& 255), .int B.length, .ref (b + 1)], (hput h b (Tx.cells b B)), c, n)) rfl ?_
        obtain ⟨i4, h5, hr⟩ := bd_some hr
        obtain ⟨B6, h7, hr⟩ := bd_some hr
        refine x_iast (H := (hput h b (Tx.cells b B6))) rfl rfl ((hp_rg (L := Tx.cells b B) hb hh rfl).lt (i := 1) (show 1 < 8 by decide)) ((hp_rg (L := Tx.cells b B) hb hh rfl).at (i := 1) rfl) h5 (hp_set (i := 1) hh rfl (by decide) (Tx.s_bytes h7)) ?_
        refine x_ldan rfl rfl rfl ((hp_rg (L := Tx.cells b B6) hb hh rfl).lt (i := 0) (show 0 < 8 by decide)) ?_
        refine x_b 1 (S2 := (41, [some (.ref b), some (.int x1), some (.int x2), some (.int ((x1 >>> (x2 &&& 31)) &&& 255))], [.ref b, .ref b], (hput h b (Tx.cells b B6)), c, n)) rfl ?_
        refine x_getf rfl rfl ((hp_rg (L := Tx.cells b B6) hb hh rfl).lt (i := 0) (show 0 < 8 by decide)) ((hp_rg (L := Tx.cells b B6) hb hh rfl).at (i := 0) rfl) rfl ?_
        refine x_b 2 (S2 := (46, [some (.ref b), some (.int x1), some (.int x2), some (.int ((x1 >>> (x2 &&& 31)) &&& 255))], [.int (B6.length + 1), .ref b], (hput h b (Tx.cells b B6)), c, n)) rfl ?_
        obtain ⟨B8, h9, hr⟩ := bd_some hr
        refine x_putf (H := (hput h b (Tx.cells b B8))) rfl rfl ((hp_rg (L := Tx.cells b B6) hb hh rfl).lt (i := 0) (show 0 < 8 by decide)) ((hp_rg (L := Tx.cells b B6) hb hh rfl).at (i := 0) rfl) ⟨(show 1 < 7 by decide), rfl, rfl, nofun⟩ (hp_set (i := 0) hh rfl (by decide) (Tx.s_length rfl h9)) ?_
        refine x_fg (Lq.s (Lq.s (Lq.s (Lq.n Lq.nil)))) ?_
        exact j_64_3_j49 hd hb hh hr ka kx
/-- PebbleProofs$SetupText.addBytes(I)V -/
def F_64 (B : Tx) (x1 : Int32) : Option (Tx) :=
  (lw (G_64_3 x1) 200000 (24, B)).bind fun B11 =>
  some B11
theorem f_64 {d : Nat} (hd : 1 ≤ d) {scr : ASc} {res : ARe} {c n : Nat} {h : AHp} {b : Nat} (hb : b + 8 ≤ am_SB) (hh : b + 8 ≤ h.length) {B : Tx} {x1 : Int32} {o : Tx} (hr : F_64 B x1 = some o) (kr : res = (.inl none, hput h b (Tx.cells b o), c, n)) : Ex d am_M64 scr (0, [some (.ref b), some (.int x1), none, none], [], (hput h b (Tx.cells b B)), c, n) res := by
  delta F_64 at hr
  refine x_b 2 (S2 := (3, [some (.ref b), some (.int x1), some (.int 24), none], [], (hput h b (Tx.cells b B)), c, n)) rfl ?_
  refine x_fg (Lq.s (Lq.s (Lq.s (Lq.s Lq.nil)))) ?_
  obtain ⟨B11, h10, hr⟩ := bd_some hr
  refine x_lw (P := P_64_3 h b c n x1) (Q := fun x => Ex d am_M64 scr (PX_64_3 h b c n x1 x) res) (fun s o h1 ka kx => g_64_3 hd hb hh h1 ka kx) _ (24, B) _ h10 ?_
  show Ex d am_M64 scr (55, [none, none, none, none], [], (hput h b (Tx.cells b B11)), c, n) res
  cases hr
  rw [kr]
  exact x_ret rfl rfl rfl
theorem m_64 {scr : ASc} {h : AHp} {b : Nat} (hb : b + 8 ≤ am_SB) (hh : b + 8 ≤ h.length) {B : Tx} {x1 : Int32} {o : Tx} (hr : F_64 B x1 = some o) : Rn scr 2 64 [.ref b, .int x1] (hput h b (Tx.cells b B)) (.inl none, hput h b (Tx.cells b o), 0, 0) :=
  x_meth (M := am_M64) rfl (show 2 ≤ 4 by decide) (f_64 (Nat.le_refl _) hb hh hr rfl)
abbrev P_65_5 (H : AHp) (b : Nat) (c n : Nat) (B : Tx) (x1 : Int32) (x2 : Int32) (s : Int32) : ASt := (5, [some (.ref b), some (.int x1), some (.int x2), some (.int s)], [], H, c, n)
abbrev PX_65_5 (H : AHp) (b : Nat) (c n : Nat) (B : Tx) (x1 : Int32) (x2 : Int32) (s : Int32) : ASt := (39, [none, none, none, some (.int s)], [], H, c, n)
def G_65_5 (B : Tx) (x1 : Int32) (x2 : Int32) (s : Int32) : Option ((Int32) ⊕ (Int32)) := 
  match s with
  | x3 =>
    if B.length ≤ x3 then
      some (.inr x3)
    else
      (ix x3 400).bind fun i2 =>
      if (B.bytes i2) < x1 then
        some (.inr x3)
      else
        if x2 < (B.bytes i2) then
          some (.inr x3)
        else
          some (.inl (x3 + 1))
theorem g_65_5 {d : Nat} (hd : 1 ≤ d) {scr : ASc} {res : ARe} {c n : Nat} {H : AHp} {b : Nat} {B : Tx} {x1 : Int32} {x2 : Int32} (hR : Rg H b (Tx.cells b B)) {s : Int32} {o : (Int32) ⊕ (Int32)} (hr : G_65_5 B x1 x2 s = some o) (ka : ∀ s, o = .inl s → Ex d am_M65 scr (P_65_5 H b c n B x1 x2 s) res) (kx : ∀ s, o = .inr s → Ex d am_M65 scr (PX_65_5 H b c n B x1 x2 s) res) : Ex d am_M65 scr (P_65_5 H b c n B x1 x2 s) res := by
  delta G_65_5 at hr
  show Ex d am_M65 scr (5, [some (.ref b), some (.int x1), some (.int x2), some (.int s)], [], H, c, n) res
  refine x_b 1 (S2 := (6, [some (.ref b), some (.int x1), some (.int x2), some (.int s)], [.int s], H, c, n)) rfl ?_
  refine x_ldan rfl rfl rfl (hR.lt (i := 0) (show 0 < 8 by decide)) ?_
  refine x_getf rfl rfl (hR.lt (i := 0) (show 0 < 8 by decide)) (hR.at (i := 0) rfl) rfl ?_
  rcases ite_some hr with ⟨h1, hr⟩ | ⟨h1, hr⟩
  · refine x_ct rfl rfl (decide_eq_true h1) ?_
    refine x_fg (Lq.n (Lq.n (Lq.n (Lq.s Lq.nil)))) ?_
    exact kx s (Option.some.inj hr).symm
  · refine x_cf rfl rfl (decide_eq_false h1) ?_
    refine x_ldan rfl rfl rfl (hR.lt (i := 0) (show 0 < 8 by decide)) ?_
    refine x_getf rfl rfl (hR.lt (i := 0) (show 0 < 8 by decide)) (hR.at (i := 0) rfl) rfl ?_
    refine x_b 1 (S2 := (18, [some (.ref b), some (.int x1), some (.int x2), some (.int s)], [.int s, .ref (b + 1)], H, c, n)) rfl ?_
    obtain ⟨i2, h3, hr⟩ := bd_some hr
    refine x_iald rfl rfl (hR.lt (i := 1) (show 1 < 8 by decide)) (hR.at (i := 1) rfl) h3 ?_
    refine x_b 1 (S2 := (20, [some (.ref b), some (.int x1), some (.int x2), some (.int s)], [.int x1, .int (B.bytes i2)], H, c, n)) rfl ?_
    rcases ite_some hr with ⟨h4, hr⟩ | ⟨h4, hr⟩
    · refine x_ct rfl rfl (decide_eq_true h4) ?_
      refine x_fg (Lq.n (Lq.n (Lq.n (Lq.s Lq.nil)))) ?_
      exact kx s (Option.some.inj hr).symm
    · refine x_cf rfl rfl (decide_eq_false h4) ?_
      refine x_ldan rfl rfl rfl (hR.lt (i := 0) (show 0 < 8 by decide)) ?_
      refine x_getf rfl rfl (hR.lt (i := 0) (show 0 < 8 by decide)) (hR.at (i := 0) rfl) rfl ?_
      refine x_b 1 (S2 := (28, [some (.ref b), some (.int x1), some (.int x2), some (.int s)], [.int s, .ref (b + 1)], H, c, n)) rfl ?_
      refine x_iald rfl rfl (hR.lt (i := 1) (show 1 < 8 by decide)) (hR.at (i := 1) rfl) h3 ?_
      refine x_b 1 (S2 := (30, [some (.ref b), some (.int x1), some (.int x2), some (.int s)], [.int x2, .int (B.bytes i2)], H, c, n)) rfl ?_
      rcases ite_some hr with ⟨h5, hr⟩ | ⟨h5, hr⟩
      · refine x_ct rfl rfl (decide_eq_true h5) ?_
        refine x_fg (Lq.n (Lq.n (Lq.n (Lq.s Lq.nil)))) ?_
        exact kx s (Option.some.inj hr).symm
      · refine x_cf rfl rfl (decide_eq_false h5) ?_
        refine x_b 2 (S2 := (5, [some (.ref b), some (.int x1), some (.int x2), some (.int (s + 1))], [], H, c, n)) rfl ?_
        refine x_fg (Lq.s (Lq.s (Lq.s (Lq.s Lq.nil)))) ?_
        exact ka (s + 1) (Option.some.inj hr).symm
def J_65_0_j39 (B : Tx) (x3 : Int32) : Option (Int32) :=
  some x3
theorem j_65_0_j39 {d : Nat} (hd : 1 ≤ d) {scr : ASc} {res : ARe} {c n : Nat} {H : AHp} {b : Nat} {B : Tx} {x3 : Int32} (hR : Rg H b (Tx.cells b B)) {o : Int32} (hr : J_65_0_j39 B x3 = some o) (kr : res = (.inl (some (.int o)), H, c, n)) : Ex d am_M65 scr (39, [none, none, none, some (.int x3)], [], H, c, n) res := by
  delta J_65_0_j39 at hr
  refine x_b 1 (S2 := (40, [none, none, none, some (.int x3)], [.int x3], H, c, n)) rfl ?_
  cases hr
  rw [kr]
  exact x_ret rfl rfl am_ret_i
/-- PebbleProofs$SetupText.endOfRun(II)I -/
def F_65 (B : Tx) (x1 : Int32) (x2 : Int32) : Option (Int32) :=
  (lw (G_65_5 B x1 x2) 200000 B.start).bind fun v7 =>
  J_65_0_j39 B v7
theorem f_65 {d : Nat} (hd : 1 ≤ d) {scr : ASc} {res : ARe} {c n : Nat} {H : AHp} {b : Nat} {B : Tx} {x1 : Int32} {x2 : Int32} (hR : Rg H b (Tx.cells b B)) {o : Int32} (hr : F_65 B x1 x2 = some o) (kr : res = (.inl (some (.int o)), H, c, n)) : Ex d am_M65 scr (0, [some (.ref b), some (.int x1), some (.int x2), none], [], H, c, n) res := by
  delta F_65 at hr
  refine x_ldan rfl rfl rfl (hR.lt (i := 0) (show 0 < 8 by decide)) ?_
  refine x_getf rfl rfl (hR.lt (i := 0) (show 0 < 8 by decide)) (hR.at (i := 0) rfl) rfl ?_
  refine x_b 1 (S2 := (5, [some (.ref b), some (.int x1), some (.int x2), some (.int B.start)], [], H, c, n)) rfl ?_
  refine x_fg (Lq.s (Lq.s (Lq.s (Lq.s Lq.nil)))) ?_
  obtain ⟨v7, h6, hr⟩ := bd_some hr
  refine x_lw (P := P_65_5 H b c n B x1 x2) (Q := fun x => Ex d am_M65 scr (PX_65_5 H b c n B x1 x2 x) res) (fun s o h1 ka kx => g_65_5 hd hR h1 ka kx) _ B.start _ h6 ?_
  show Ex d am_M65 scr (39, [none, none, none, some (.int v7)], [], H, c, n) res
  refine x_fg (Lq.s (Lq.s (Lq.s (Lq.s Lq.nil)))) ?_
  exact j_65_0_j39 hd hR hr kr
theorem m_65 {scr : ASc} {H : AHp} {b : Nat} {B : Tx} {x1 : Int32} {x2 : Int32} (hR : Rg H b (Tx.cells b B)) {o : Int32} (hr : F_65 B x1 x2 = some o) : Rn scr 2 65 [.ref b, .int x1, .int x2] H (.inl (some (.int o)), H, 0, 0) :=
  x_meth (M := am_M65) rfl (show 3 ≤ 4 by decide) (f_65 (Nat.le_refl _) hR hr rfl)
abbrev P_67_22 (H : AHp) (b : Nat) (c n : Nat) (B : Tx) (s : Int32 × Int32) : ASt := (22, [some (.ref b), some (.int s.1), some (.int s.2)], [], H, c, n)
abbrev PX_67_22 (H : AHp) (b : Nat) (c n : Nat) (B : Tx) (s : Int32) : ASt := (51, [none, some (.int s), none], [], H, c, n)
def G_67_22 (B : Tx) (s : Int32 × Int32) : Option ((Int32 × Int32) ⊕ (Int32)) := 
  match s with
  | (x1, x2) =>
    if B.stop ≤ x2 then
      some (.inr x1)
    else
      (ix x2 400).bind fun i3 =>
      some (.inl ((((10 * x1) + (B.bytes i3)) - 48), (x2 + 1)))
theorem g_67_22 {d : Nat} (hd : 1 ≤ d) {scr : ASc} {res : ARe} {c n : Nat} {H : AHp} {b : Nat} {B : Tx} (hR : Rg H b (Tx.cells b B)) {s : Int32 × Int32} {o : (Int32 × Int32) ⊕ (Int32)} (hr : G_67_22 B s = some o) (ka : ∀ s, o = .inl s → Ex d am_M67 scr (P_67_22 H b c n B s) res) (kx : ∀ s, o = .inr s → Ex d am_M67 scr (PX_67_22 H b c n B s) res) : Ex d am_M67 scr (P_67_22 H b c n B s) res := by
  obtain ⟨x1, x2⟩ := s
  delta G_67_22 at hr
  show Ex d am_M67 scr (22, [some (.ref b), some (.int x1), some (.int x2)], [], H, c, n) res
  refine x_b 1 (S2 := (23, [some (.ref b), some (.int x1), some (.int x2)], [.int x2], H, c, n)) rfl ?_
  refine x_ldan rfl rfl rfl (hR.lt (i := 0) (show 0 < 8 by decide)) ?_
  refine x_getf rfl rfl (hR.lt (i := 0) (show 0 < 8 by decide)) (hR.at (i := 0) rfl) rfl ?_
  rcases ite_some hr with ⟨h2, hr⟩ | ⟨h2, hr⟩
  · refine x_ct rfl rfl (decide_eq_true h2) ?_
    refine x_fg (Lq.n (Lq.s (Lq.n Lq.nil))) ?_
    exact kx x1 (Option.some.inj hr).symm
  · refine x_cf rfl rfl (decide_eq_false h2) ?_
    refine x_b 3 (S2 := (34, [some (.ref b), some (.int x1), some (.int x2)], [.int (10 * x1)], H, c, n)) rfl ?_
    refine x_ldan rfl rfl rfl (hR.lt (i := 0) (show 0 < 8 by decide)) ?_
    refine x_getf rfl rfl (hR.lt (i := 0) (show 0 < 8 by decide)) (hR.at (i := 0) rfl) rfl ?_
    refine x_b 1 (S2 := (39, [some (.ref b), some (.int x1), some (.int x2)], [.int x2, .ref (b + 1), .int (10 * x1)], H, c, n)) rfl ?_
    obtain ⟨i3, h4, hr⟩ := bd_some hr
    refine x_iald rfl rfl (hR.lt (i := 1) (show 1 < 8 by decide)) (hR.at (i := 1) rfl) h4 ?_
    refine x_b 6 (S2 := (22, [some (.ref b), some (.int (((10 * x1) + (B.bytes i3)) - 48)), some (.int (x2 + 1))], [], H, c, n)) rfl ?_
    refine x_fg (Lq.s (Lq.s (Lq.s Lq.nil))) ?_
    exact ka ((((10 * x1) + (B.bytes i3)) - 48), (x2 + 1)) (Option.some.inj hr).symm
/-- PebbleProofs$SetupText.numberRead()I -/
def F_67 (B : Tx) : Option (Int32) :=
  if (B.stop - B.start) ≤ 3 then
    (lw (G_67_22 B) 200000 (0, B.start)).bind fun v6 =>
    some v6
  else
    some (-1)
theorem f_67 {d : Nat} (hd : 1 ≤ d) {scr : ASc} {res : ARe} {c n : Nat} {H : AHp} {b : Nat} {B : Tx} (hR : Rg H b (Tx.cells b B)) {o : Int32} (hr : F_67 B = some o) (kr : res = (.inl (some (.int o)), H, c, n)) : Ex d am_M67 scr (0, [some (.ref b), none, none], [], H, c, n) res := by
  delta F_67 at hr
  refine x_ldan rfl rfl rfl (hR.lt (i := 0) (show 0 < 8 by decide)) ?_
  refine x_getf rfl rfl (hR.lt (i := 0) (show 0 < 8 by decide)) (hR.at (i := 0) rfl) rfl ?_
  refine x_ldan rfl rfl rfl (hR.lt (i := 0) (show 0 < 8 by decide)) ?_
  refine x_getf rfl rfl (hR.lt (i := 0) (show 0 < 8 by decide)) (hR.at (i := 0) rfl) rfl ?_
  refine x_b 2 (S2 := (10, [some (.ref b), none, none], [.int 3, .int (B.stop - B.start)], H, c, n)) rfl ?_
  rcases ite_some hr with ⟨h1, hr⟩ | ⟨h1, hr⟩
  · refine x_ct rfl rfl (decide_eq_true h1) ?_
    refine x_b 2 (S2 := (17, [some (.ref b), some (.int 0), none], [], H, c, n)) rfl ?_
    refine x_ldan rfl rfl rfl (hR.lt (i := 0) (show 0 < 8 by decide)) ?_
    refine x_getf rfl rfl (hR.lt (i := 0) (show 0 < 8 by decide)) (hR.at (i := 0) rfl) rfl ?_
    refine x_b 1 (S2 := (22, [some (.ref b), some (.int 0), some (.int B.start)], [], H, c, n)) rfl ?_
    refine x_fg (Lq.s (Lq.s (Lq.s Lq.nil))) ?_
    obtain ⟨v6, h5, hr⟩ := bd_some hr
    refine x_lw (P := P_67_22 H b c n B) (Q := fun x => Ex d am_M67 scr (PX_67_22 H b c n B x) res) (fun s o h1 ka kx => g_67_22 hd hR h1 ka kx) _ (0, B.start) _ h5 ?_
    show Ex d am_M67 scr (51, [none, some (.int v6), none], [], H, c, n) res
    refine x_b 1 (S2 := (52, [none, some (.int v6), none], [.int v6], H, c, n)) rfl ?_
    cases hr
    rw [kr]
    exact x_ret rfl rfl am_ret_i
  · refine x_cf rfl rfl (decide_eq_false h1) ?_
    refine x_b 1 (S2 := (14, [some (.ref b), none, none], [.int (-1)], H, c, n)) rfl ?_
    cases hr
    rw [kr]
    exact x_ret rfl rfl am_ret_i
theorem m_67 {scr : ASc} {H : AHp} {b : Nat} {B : Tx} (hR : Rg H b (Tx.cells b B)) {o : Int32} (hr : F_67 B = some o) : Rn scr 2 67 [.ref b] H (.inl (some (.int o)), H, 0, 0) :=
  x_meth (M := am_M67) rfl (show 1 ≤ 3 by decide) (f_67 (Nat.le_refl _) hR hr rfl)
def J_66_0_j134 (B : Tx) : Option (Tx) :=
  some B
theorem j_66_0_j134 {d : Nat} (hd : 2 ≤ d) {scr : ASc} {res : ARe} {c n : Nat} {h : AHp} {b : Nat} (hb : b + 8 ≤ am_SB) (hh : b + 8 ≤ h.length) {B : Tx} {o : Tx} (hr : J_66_0_j134 B = some o) (kr : res = (.inl none, hput h b (Tx.cells b o), c, n)) : Ex d am_M66 scr (134, [none, none, none], [], (hput h b (Tx.cells b B)), c, n) res := by
  delta J_66_0_j134 at hr
  cases hr
  rw [kr]
  exact x_ret rfl rfl rfl
/-- PebbleProofs$SetupText.readToken()V -/
def F_66 (B : Tx) : Option (Tx) :=
  (some (B.w_start B.stop)).bind fun B1 =>
  (F_65 B1 32 32).bind fun v4 =>
  (some (B1.w_start v4)).bind fun B5 =>
  (F_65 B5 97 122).bind fun v8 =>
  (F_65 B5 48 57).bind fun v10 =>
  (some (B5.w_stop (imx v8 v10))).bind fun B11 =>
  if B11.start < B11.length then
    if v8 ≤ B11.start then
      if v10 ≤ B11.start then
        (some (B11.w_kind 3)).bind fun B16 =>
        (ix B16.start 400).bind fun i18 =>
        (some (B16.w_value (B16.bytes i18))).bind fun B20 =>
        (some (B20.w_stop (B20.start + 1))).bind fun B22 =>
        J_66_0_j134 B22
      else
        (some (B11.w_kind 2)).bind fun B24 =>
        (F_67 B24).bind fun v27 =>
        (some (B24.w_value v27)).bind fun B28 =>
        J_66_0_j134 B28
    else
      (some (B11.w_kind 1)).bind fun B30 =>
      J_66_0_j134 B30
  else
    (some (B11.w_kind 0)).bind fun B32 =>
    J_66_0_j134 B32
theorem f_66 {d : Nat} (hd : 2 ≤ d) {scr : ASc} {res : ARe} {c n : Nat} {h : AHp} {b : Nat} (hb : b + 8 ≤ am_SB) (hh : b + 8 ≤ h.length) {B : Tx} {o : Tx} (hr : F_66 B = some o) (kr : res = (.inl none, hput h b (Tx.cells b o), c, n)) : Ex d am_M66 scr (0, [some (.ref b), none, none], [], (hput h b (Tx.cells b B)), c, n) res := by
  delta F_66 at hr
  refine x_ldan rfl rfl rfl ((hp_rg (L := Tx.cells b B) hb hh rfl).lt (i := 0) (show 0 < 8 by decide)) ?_
  refine x_ldan rfl rfl rfl ((hp_rg (L := Tx.cells b B) hb hh rfl).lt (i := 0) (show 0 < 8 by decide)) ?_
  refine x_getf rfl rfl ((hp_rg (L := Tx.cells b B) hb hh rfl).lt (i := 0) (show 0 < 8 by decide)) ((hp_rg (L := Tx.cells b B) hb hh rfl).at (i := 0) rfl) rfl ?_
  obtain ⟨B1, h2, hr⟩ := bd_some hr
  refine x_putf (H := (hput h b (Tx.cells b B1))) rfl rfl ((hp_rg (L := Tx.cells b B) hb hh rfl).lt (i := 0) (show 0 < 8 by decide)) ((hp_rg (L := Tx.cells b B) hb hh rfl).at (i := 0) rfl) ⟨(show 4 < 7 by decide), rfl, rfl, nofun⟩ (hp_set (i := 0) hh rfl (by decide) (Tx.s_start rfl h2)) ?_
  refine x_ldan rfl rfl rfl ((hp_rg (L := Tx.cells b B1) hb hh rfl).lt (i := 0) (show 0 < 8 by decide)) ?_
  refine x_ldan rfl rfl rfl ((hp_rg (L := Tx.cells b B1) hb hh rfl).lt (i := 0) (show 0 < 8 by decide)) ?_
  refine x_b 2 (S2 := (14, [some (.ref b), none, none], [.int 32, .int 32, .ref b, .ref b], (hput h b (Tx.cells b B1)), c, n)) rfl ?_
  obtain ⟨v4, h3, hr⟩ := bd_some hr
  refine x_c0 (m_65 (hp_rg (L := Tx.cells b B1) hb hh rfl) h3) rfl rfl rfl rfl (am_recv_v ((hp_rg (L := Tx.cells b B1) hb hh rfl).lt (i := 0) (show 0 < 8 by decide)) ((hp_rg (L := Tx.cells b B1) hb hh rfl).at (i := 0) rfl) rfl) (by omega) ?_
  obtain ⟨B5, h6, hr⟩ := bd_some hr
  refine x_putf (H := (hput h b (Tx.cells b B5))) rfl rfl ((hp_rg (L := Tx.cells b B1) hb hh rfl).lt (i := 0) (show 0 < 8 by decide)) ((hp_rg (L := Tx.cells b B1) hb hh rfl).at (i := 0) rfl) ⟨(show 4 < 7 by decide), rfl, rfl, nofun⟩ (hp_set (i := 0) hh rfl (by decide) (Tx.s_start rfl h6)) ?_
  refine x_ldan rfl rfl rfl ((hp_rg (L := Tx.cells b B5) hb hh rfl).lt (i := 0) (show 0 < 8 by decide)) ?_
  refine x_b 2 (S2 := (25, [some (.ref b), none, none], [.int 122, .int 97, .ref b], (hput h b (Tx.cells b B5)), c, n)) rfl ?_
  obtain ⟨v8, h7, hr⟩ := bd_some hr
  refine x_c0 (m_65 (hp_rg (L := Tx.cells b B5) hb hh rfl) h7) rfl rfl rfl rfl (am_recv_v ((hp_rg (L := Tx.cells b B5) hb hh rfl).lt (i := 0) (show 0 < 8 by decide)) ((hp_rg (L := Tx.cells b B5) hb hh rfl).at (i := 0) rfl) rfl) (by omega) ?_
  refine x_b 1 (S2 := (29, [some (.ref b), some (.int v8), none], [], (hput h b (Tx.cells b B5)), c, n)) rfl ?_
  refine x_ldan rfl rfl rfl ((hp_rg (L := Tx.cells b B5) hb hh rfl).lt (i := 0) (show 0 < 8 by decide)) ?_
  refine x_b 2 (S2 := (34, [some (.ref b), some (.int v8), none], [.int 57, .int 48, .ref b], (hput h b (Tx.cells b B5)), c, n)) rfl ?_
  obtain ⟨v10, h9, hr⟩ := bd_some hr
  refine x_c0 (m_65 (hp_rg (L := Tx.cells b B5) hb hh rfl) h9) rfl rfl rfl rfl (am_recv_v ((hp_rg (L := Tx.cells b B5) hb hh rfl).lt (i := 0) (show 0 < 8 by decide)) ((hp_rg (L := Tx.cells b B5) hb hh rfl).at (i := 0) rfl) rfl) (by omega) ?_
  refine x_b 1 (S2 := (38, [some (.ref b), some (.int v8), some (.int v10)], [], (hput h b (Tx.cells b B5)), c, n)) rfl ?_
  refine x_ldan rfl rfl rfl ((hp_rg (L := Tx.cells b B5) hb hh rfl).lt (i := 0) (show 0 < 8 by decide)) ?_
  refine x_b 3 (S2 := (44, [some (.ref b), some (.int v8), some (.int v10)], [.int (imx v8 v10), .ref b], (hput h b (Tx.cells b B5)), c, n)) rfl ?_
  obtain ⟨B11, h12, hr⟩ := bd_some hr
  refine x_putf (H := (hput h b (Tx.cells b B11))) rfl rfl ((hp_rg (L := Tx.cells b B5) hb hh rfl).lt (i := 0) (show 0 < 8 by decide)) ((hp_rg (L := Tx.cells b B5) hb hh rfl).at (i := 0) rfl) ⟨(show 5 < 7 by decide), rfl, rfl, nofun⟩ (hp_set (i := 0) hh rfl (by decide) (Tx.s_stop rfl h12)) ?_
  refine x_ldan rfl rfl rfl ((hp_rg (L := Tx.cells b B11) hb hh rfl).lt (i := 0) (show 0 < 8 by decide)) ?_
  refine x_getf rfl rfl ((hp_rg (L := Tx.cells b B11) hb hh rfl).lt (i := 0) (show 0 < 8 by decide)) ((hp_rg (L := Tx.cells b B11) hb hh rfl).at (i := 0) rfl) rfl ?_
  refine x_ldan rfl rfl rfl ((hp_rg (L := Tx.cells b B11) hb hh rfl).lt (i := 0) (show 0 < 8 by decide)) ?_
  refine x_getf rfl rfl ((hp_rg (L := Tx.cells b B11) hb hh rfl).lt (i := 0) (show 0 < 8 by decide)) ((hp_rg (L := Tx.cells b B11) hb hh rfl).at (i := 0) rfl) rfl ?_
  rcases ite_some hr with ⟨h13, hr⟩ | ⟨h13, hr⟩
  · refine x_ct rfl rfl (decide_eq_true h13) ?_
    refine x_b 1 (S2 := (67, [some (.ref b), some (.int v8), some (.int v10)], [.int v8], (hput h b (Tx.cells b B11)), c, n)) rfl ?_
    refine x_ldan rfl rfl rfl ((hp_rg (L := Tx.cells b B11) hb hh rfl).lt (i := 0) (show 0 < 8 by decide)) ?_
    refine x_getf rfl rfl ((hp_rg (L := Tx.cells b B11) hb hh rfl).lt (i := 0) (show 0 < 8 by decide)) ((hp_rg (L := Tx.cells b B11) hb hh rfl).at (i := 0) rfl) rfl ?_
    rcases ite_some hr with ⟨h14, hr⟩ | ⟨h14, hr⟩
    · refine x_ct rfl rfl (decide_eq_true h14) ?_
      refine x_b 1 (S2 := (83, [some (.ref b), some (.int v8), some (.int v10)], [.int v10], (hput h b (Tx.cells b B11)), c, n)) rfl ?_
      refine x_ldan rfl rfl rfl ((hp_rg (L := Tx.cells b B11) hb hh rfl).lt (i := 0) (show 0 < 8 by decide)) ?_
      refine x_getf rfl rfl ((hp_rg (L := Tx.cells b B11) hb hh rfl).lt (i := 0) (show 0 < 8 by decide)) ((hp_rg (L := Tx.cells b B11) hb hh rfl).at (i := 0) rfl) rfl ?_
      rcases ite_some hr with ⟨h15, hr⟩ | ⟨h15, hr⟩
      · refine x_ct rfl rfl (decide_eq_true h15) ?_
        refine x_ldan rfl rfl rfl ((hp_rg (L := Tx.cells b B11) hb hh rfl).lt (i := 0) (show 0 < 8 by decide)) ?_
        refine x_b 1 (S2 := (108, [some (.ref b), some (.int v8), some (.int v10)], [.int 3, .ref b], (hput h b (Tx.cells b B11)), c, n)) rfl ?_
        obtain ⟨B16, h17, hr⟩ := bd_some hr
        refine x_putf (H := (hput h b (Tx.cells b B16))) rfl rfl ((hp_rg (L := Tx.cells b B11) hb hh rfl).lt (i := 0) (show 0 < 8 by decide)) ((hp_rg (L := Tx.cells b B11) hb hh rfl).at (i := 0) rfl) ⟨(show 3 < 7 by decide), rfl, rfl, nofun⟩ (hp_set (i := 0) hh rfl (by decide) (Tx.s_kind rfl h17)) ?_
        refine x_ldan rfl rfl rfl ((hp_rg (L := Tx.cells b B16) hb hh rfl).lt (i := 0) (show 0 < 8 by decide)) ?_
        refine x_ldan rfl rfl rfl ((hp_rg (L := Tx.cells b B16) hb hh rfl).lt (i := 0) (show 0 < 8 by decide)) ?_
        refine x_getf rfl rfl ((hp_rg (L := Tx.cells b B16) hb hh rfl).lt (i := 0) (show 0 < 8 by decide)) ((hp_rg (L := Tx.cells b B16) hb hh rfl).at (i := 0) rfl) rfl ?_
        refine x_ldan rfl rfl rfl ((hp_rg (L := Tx.cells b B16) hb hh rfl).lt (i := 0) (show 0 < 8 by decide)) ?_
        refine x_getf rfl rfl ((hp_rg (L := Tx.cells b B16) hb hh rfl).lt (i := 0) (show 0 < 8 by decide)) ((hp_rg (L := Tx.cells b B16) hb hh rfl).at (i := 0) rfl) rfl ?_
        obtain ⟨i18, h19, hr⟩ := bd_some hr
        refine x_iald rfl rfl ((hp_rg (L := Tx.cells b B16) hb hh rfl).lt (i := 1) (show 1 < 8 by decide)) ((hp_rg (L := Tx.cells b B16) hb hh rfl).at (i := 1) rfl) h19 ?_
        obtain ⟨B20, h21, hr⟩ := bd_some hr
        refine x_putf (H := (hput h b (Tx.cells b B20))) rfl rfl ((hp_rg (L := Tx.cells b B16) hb hh rfl).lt (i := 0) (show 0 < 8 by decide)) ((hp_rg (L := Tx.cells b B16) hb hh rfl).at (i := 0) rfl) ⟨(show 6 < 7 by decide), rfl, rfl, nofun⟩ (hp_set (i := 0) hh rfl (by decide) (Tx.s_value rfl h21)) ?_
        refine x_ldan rfl rfl rfl ((hp_rg (L := Tx.cells b B20) hb hh rfl).lt (i := 0) (show 0 < 8 by decide)) ?_
        refine x_ldan rfl rfl rfl ((hp_rg (L := Tx.cells b B20) hb hh rfl).lt (i := 0) (show 0 < 8 by decide)) ?_
        refine x_getf rfl rfl ((hp_rg (L := Tx.cells b B20) hb hh rfl).lt (i := 0) (show 0 < 8 by decide)) ((hp_rg (L := Tx.cells b B20) hb hh rfl).at (i := 0) rfl) rfl ?_
        refine x_b 2 (S2 := (131, [some (.ref b), some (.int v8), some (.int v10)], [.int (B20.start + 1), .ref b], (hput h b (Tx.cells b B20)), c, n)) rfl ?_
        obtain ⟨B22, h23, hr⟩ := bd_some hr
        refine x_putf (H := (hput h b (Tx.cells b B22))) rfl rfl ((hp_rg (L := Tx.cells b B20) hb hh rfl).lt (i := 0) (show 0 < 8 by decide)) ((hp_rg (L := Tx.cells b B20) hb hh rfl).at (i := 0) rfl) ⟨(show 5 < 7 by decide), rfl, rfl, nofun⟩ (hp_set (i := 0) hh rfl (by decide) (Tx.s_stop rfl h23)) ?_
        refine x_fg (Lq.n (Lq.n (Lq.n Lq.nil))) ?_
        exact j_66_0_j134 hd hb hh hr kr
      · refine x_cf rfl rfl (decide_eq_false h15) ?_
        refine x_ldan rfl rfl rfl ((hp_rg (L := Tx.cells b B11) hb hh rfl).lt (i := 0) (show 0 < 8 by decide)) ?_
        refine x_b 1 (S2 := (92, [some (.ref b), some (.int v8), some (.int v10)], [.int 2, .ref b], (hput h b (Tx.cells b B11)), c, n)) rfl ?_
        obtain ⟨B24, h25, hr⟩ := bd_some hr
        refine x_putf (H := (hput h b (Tx.cells b B24))) rfl rfl ((hp_rg (L := Tx.cells b B11) hb hh rfl).lt (i := 0) (show 0 < 8 by decide)) ((hp_rg (L := Tx.cells b B11) hb hh rfl).at (i := 0) rfl) ⟨(show 3 < 7 by decide), rfl, rfl, nofun⟩ (hp_set (i := 0) hh rfl (by decide) (Tx.s_kind rfl h25)) ?_
        refine x_ldan rfl rfl rfl ((hp_rg (L := Tx.cells b B24) hb hh rfl).lt (i := 0) (show 0 < 8 by decide)) ?_
        refine x_ldan rfl rfl rfl ((hp_rg (L := Tx.cells b B24) hb hh rfl).lt (i := 0) (show 0 < 8 by decide)) ?_
        obtain ⟨v27, h26, hr⟩ := bd_some hr
        refine x_c0 (m_67 (hp_rg (L := Tx.cells b B24) hb hh rfl) h26) rfl rfl rfl rfl (am_recv_v ((hp_rg (L := Tx.cells b B24) hb hh rfl).lt (i := 0) (show 0 < 8 by decide)) ((hp_rg (L := Tx.cells b B24) hb hh rfl).at (i := 0) rfl) rfl) (by omega) ?_
        obtain ⟨B28, h29, hr⟩ := bd_some hr
        refine x_putf (H := (hput h b (Tx.cells b B28))) rfl rfl ((hp_rg (L := Tx.cells b B24) hb hh rfl).lt (i := 0) (show 0 < 8 by decide)) ((hp_rg (L := Tx.cells b B24) hb hh rfl).at (i := 0) rfl) ⟨(show 6 < 7 by decide), rfl, rfl, nofun⟩ (hp_set (i := 0) hh rfl (by decide) (Tx.s_value rfl h29)) ?_
        refine x_b 1 (S2 := (134, [some (.ref b), some (.int v8), some (.int v10)], [], (hput h b (Tx.cells b B28)), c, n)) rfl ?_
        refine x_fg (Lq.n (Lq.n (Lq.n Lq.nil))) ?_
        exact j_66_0_j134 hd hb hh hr kr
    · refine x_cf rfl rfl (decide_eq_false h14) ?_
      refine x_ldan rfl rfl rfl ((hp_rg (L := Tx.cells b B11) hb hh rfl).lt (i := 0) (show 0 < 8 by decide)) ?_
      refine x_b 1 (S2 := (76, [some (.ref b), some (.int v8), some (.int v10)], [.int 1, .ref b], (hput h b (Tx.cells b B11)), c, n)) rfl ?_
      obtain ⟨B30, h31, hr⟩ := bd_some hr
      refine x_putf (H := (hput h b (Tx.cells b B30))) rfl rfl ((hp_rg (L := Tx.cells b B11) hb hh rfl).lt (i := 0) (show 0 < 8 by decide)) ((hp_rg (L := Tx.cells b B11) hb hh rfl).at (i := 0) rfl) ⟨(show 3 < 7 by decide), rfl, rfl, nofun⟩ (hp_set (i := 0) hh rfl (by decide) (Tx.s_kind rfl h31)) ?_
      refine x_b 1 (S2 := (134, [some (.ref b), some (.int v8), some (.int v10)], [], (hput h b (Tx.cells b B30)), c, n)) rfl ?_
      refine x_fg (Lq.n (Lq.n (Lq.n Lq.nil))) ?_
      exact j_66_0_j134 hd hb hh hr kr
  · refine x_cf rfl rfl (decide_eq_false h13) ?_
    refine x_ldan rfl rfl rfl ((hp_rg (L := Tx.cells b B11) hb hh rfl).lt (i := 0) (show 0 < 8 by decide)) ?_
    refine x_b 1 (S2 := (60, [some (.ref b), some (.int v8), some (.int v10)], [.int 0, .ref b], (hput h b (Tx.cells b B11)), c, n)) rfl ?_
    obtain ⟨B32, h33, hr⟩ := bd_some hr
    refine x_putf (H := (hput h b (Tx.cells b B32))) rfl rfl ((hp_rg (L := Tx.cells b B11) hb hh rfl).lt (i := 0) (show 0 < 8 by decide)) ((hp_rg (L := Tx.cells b B11) hb hh rfl).at (i := 0) rfl) ⟨(show 3 < 7 by decide), rfl, rfl, nofun⟩ (hp_set (i := 0) hh rfl (by decide) (Tx.s_kind rfl h33)) ?_
    refine x_b 1 (S2 := (134, [some (.ref b), some (.int v8), some (.int v10)], [], (hput h b (Tx.cells b B32)), c, n)) rfl ?_
    refine x_fg (Lq.n (Lq.n (Lq.n Lq.nil))) ?_
    exact j_66_0_j134 hd hb hh hr kr
theorem m_66 {scr : ASc} {h : AHp} {b : Nat} (hb : b + 8 ≤ am_SB) (hh : b + 8 ≤ h.length) {B : Tx} {o : Tx} (hr : F_66 B = some o) : Rn scr 3 66 [.ref b] (hput h b (Tx.cells b B)) (.inl none, hput h b (Tx.cells b o), 0, 0) :=
  x_meth (M := am_M66) rfl (show 1 ≤ 3 by decide) (f_66 (Nat.le_refl _) hb hh hr rfl)
def J_68_0_j24 (k : Nat) (B : Tx) : Option (Int32) :=
  some 0
theorem j_68_0_j24 {d : Nat} (hd : 6 ≤ d) {scr : ASc} {res : ARe} {c n : Nat} {H : AHp} {b : Nat} {k : Nat} {B : Tx} (hk : k < 4) (hR : Rg H b (Tx.cells b B)) {o : Int32} (hr : J_68_0_j24 k B = some o) (kr : res = (.inl (some (.int o)), H, c, n)) : Ex d am_M68 scr (24, [none, none, none], [], H, c, n) res := by
  delta J_68_0_j24 at hr
  refine x_b 1 (S2 := (25, [none, none, none], [.int 0], H, c, n)) rfl ?_
  cases hr
  rw [kr]
  exact x_ret rfl rfl (am_ret_z (by decide))
abbrev P_68_28 (H : AHp) (b : Nat) (c n : Nat) (k : Nat) (B : Tx) (s : Int32) : ASt := (28, [some (.ref b), some (.ref (am_SB + 10 + 2 * k)), some (.int s)], [], H, c, n)
abbrev PX_68_28 (H : AHp) (b : Nat) (c n : Nat) (k : Nat) (B : Tx) (s : Unit) : ASt := (63, [none, none, none], [], H, c, n)
def G_68_28 (k : Nat) (B : Tx) (s : Int32) : Option ((Int32) ⊕ (Unit) ⊕ (Int32)) := 
  match s with
  | x2 =>
    if (Int32.ofNat (am_tx k).length) ≤ x2 then
      some (.inr (.inl ()))
    else
      (ix (B.start + x2) 400).bind fun i5 =>
      (ix x2 (am_tx k).length).bind fun i7 =>
      if (B.bytes i5) = ((am_tx k).getD i7 0) then
        some (.inl (x2 + 1))
      else
        some (.inr (.inr 0))
theorem g_68_28 {d : Nat} (hd : 6 ≤ d) {scr : ASc} {res : ARe} {c n : Nat} {H : AHp} {b : Nat} {k : Nat} {B : Tx} (hk : k < 4) (hR : Rg H b (Tx.cells b B)) {s : Int32} {o : (Int32) ⊕ (Unit) ⊕ (Int32)} (hr : G_68_28 k B s = some o) (ka : ∀ s, o = .inl s → Ex d am_M68 scr (P_68_28 H b c n k B s) res) (kx : ∀ s, o = .inr (.inl s) → Ex d am_M68 scr (PX_68_28 H b c n k B s) res) (kr : ∀ r, o = .inr (.inr r) → res = (.inl (some (.int r)), H, c, n)) : Ex d am_M68 scr (P_68_28 H b c n k B s) res := by
  delta G_68_28 at hr
  show Ex d am_M68 scr (28, [some (.ref b), some (.ref (am_SB + 10 + 2 * k)), some (.int s)], [], H, c, n) res
  refine x_b 1 (S2 := (29, [some (.ref b), some (.ref (am_SB + 10 + 2 * k)), some (.int s)], [.int s], H, c, n)) rfl ?_
  refine x_ldtn rfl rfl rfl hk ?_
  refine x_c0 (am_txlen k hk) rfl rfl rfl rfl (am_recv_t hk) (by omega) ?_
  rcases ite_some hr with ⟨h4, hr⟩ | ⟨h4, hr⟩
  · refine x_ct rfl rfl (decide_eq_true h4) ?_
    refine x_fg (Lq.n (Lq.n (Lq.n Lq.nil))) ?_
    exact kx () (Option.some.inj hr).symm
  · refine x_cf rfl rfl (decide_eq_false h4) ?_
    refine x_ldan rfl rfl rfl (hR.lt (i := 0) (show 0 < 8 by decide)) ?_
    refine x_getf rfl rfl (hR.lt (i := 0) (show 0 < 8 by decide)) (hR.at (i := 0) rfl) rfl ?_
    refine x_ldan rfl rfl rfl (hR.lt (i := 0) (show 0 < 8 by decide)) ?_
    refine x_getf rfl rfl (hR.lt (i := 0) (show 0 < 8 by decide)) (hR.at (i := 0) rfl) rfl ?_
    refine x_b 2 (S2 := (46, [some (.ref b), some (.ref (am_SB + 10 + 2 * k)), some (.int s)], [.int (B.start + s), .ref (b + 1)], H, c, n)) rfl ?_
    obtain ⟨i5, h6, hr⟩ := bd_some hr
    refine x_iald rfl rfl (hR.lt (i := 1) (show 1 < 8 by decide)) (hR.at (i := 1) rfl) h6 ?_
    refine x_ldtn rfl rfl rfl hk ?_
    refine x_b 1 (S2 := (49, [some (.ref b), some (.ref (am_SB + 10 + 2 * k)), some (.int s)], [.int s, .ref (am_SB + 10 + 2 * k), .int (B.bytes i5)], H, c, n)) rfl ?_
    obtain ⟨i7, h8, hr⟩ := bd_some hr
    refine x_c0 (am_chr hk h8) rfl rfl rfl rfl (am_recv_t hk) (by omega) ?_
    rcases ite_some hr with ⟨h9, hr⟩ | ⟨h9, hr⟩
    · refine x_ct rfl rfl (decide_eq_true h9) ?_
      refine x_b 2 (S2 := (28, [some (.ref b), some (.ref (am_SB + 10 + 2 * k)), some (.int (s + 1))], [], H, c, n)) rfl ?_
      refine x_fg (Lq.s (Lq.s (Lq.s Lq.nil))) ?_
      exact ka (s + 1) (Option.some.inj hr).symm
    · refine x_cf rfl rfl (decide_eq_false h9) ?_
      refine x_b 1 (S2 := (56, [some (.ref b), some (.ref (am_SB + 10 + 2 * k)), some (.int s)], [.int 0], H, c, n)) rfl ?_
      rw [kr _ (Option.some.inj hr).symm]
      exact x_ret rfl rfl (am_ret_z (by decide))
/-- PebbleProofs$SetupText.isWord(Ljava/lang/String;)Z -/
def F_68 (k : Nat) (B : Tx) : Option (Int32) :=
  if ¬ B.kind = 1 then
    J_68_0_j24 k B
  else
    if (B.stop - B.start) = (Int32.ofNat (am_tx k).length) then
      (lw (G_68_28 k B) 200000 0).bind fun r =>
        match r with
        | .inr r14 => some r14
        | .inl _ =>
          some 1
    else
      J_68_0_j24 k B
theorem f_68 {d : Nat} (hd : 6 ≤ d) {scr : ASc} {res : ARe} {c n : Nat} {H : AHp} {b : Nat} {k : Nat} {B : Tx} (hk : k < 4) (hR : Rg H b (Tx.cells b B)) {o : Int32} (hr : F_68 k B = some o) (kr : res = (.inl (some (.int o)), H, c, n)) : Ex d am_M68 scr (0, [some (.ref b), some (.ref (am_SB + 10 + 2 * k)), none], [], H, c, n) res := by
  delta F_68 at hr
  refine x_ldan rfl rfl rfl (hR.lt (i := 0) (show 0 < 8 by decide)) ?_
  refine x_getf rfl rfl (hR.lt (i := 0) (show 0 < 8 by decide)) (hR.at (i := 0) rfl) rfl ?_
  refine x_b 1 (S2 := (5, [some (.ref b), some (.ref (am_SB + 10 + 2 * k)), none], [.int 1, .int B.kind], H, c, n)) rfl ?_
  rcases ite_some hr with ⟨h1, hr⟩ | ⟨h1, hr⟩
  · refine x_ct rfl rfl (decide_eq_true h1) ?_
    refine x_fg (Lq.n (Lq.n (Lq.s Lq.nil))) ?_
    exact j_68_0_j24 hd hk hR hr kr
  · refine x_cf rfl rfl (decide_eq_false h1) ?_
    refine x_ldan rfl rfl rfl (hR.lt (i := 0) (show 0 < 8 by decide)) ?_
    refine x_getf rfl rfl (hR.lt (i := 0) (show 0 < 8 by decide)) (hR.at (i := 0) rfl) rfl ?_
    refine x_ldan rfl rfl rfl (hR.lt (i := 0) (show 0 < 8 by decide)) ?_
    refine x_getf rfl rfl (hR.lt (i := 0) (show 0 < 8 by decide)) (hR.at (i := 0) rfl) rfl ?_
    refine x_b 1 (S2 := (17, [some (.ref b), some (.ref (am_SB + 10 + 2 * k)), none], [.int (B.stop - B.start)], H, c, n)) rfl ?_
    refine x_ldtn rfl rfl rfl hk ?_
    refine x_c0 (am_txlen k hk) rfl rfl rfl rfl (am_recv_t hk) (by omega) ?_
    rcases ite_some hr with ⟨h3, hr⟩ | ⟨h3, hr⟩
    · refine x_ct rfl rfl (decide_eq_true h3) ?_
      refine x_b 2 (S2 := (28, [some (.ref b), some (.ref (am_SB + 10 + 2 * k)), some (.int 0)], [], H, c, n)) rfl ?_
      refine x_fg (Lq.s (Lq.s (Lq.s Lq.nil))) ?_
      obtain ⟨o12, h11, hr⟩ := bd_some hr
      refine x_lw (P := P_68_28 H b c n k B) (Q := fun x => match x with | .inl e => Ex d am_M68 scr (PX_68_28 H b c n k B e) res | .inr r => res = (.inl (some (.int r)), H, c, n)) (fun s o h1 ka kx => g_68_28 hd hk hR h1 ka (fun e he => kx (.inl e) he) (fun r he => kx (.inr r) he)) _ 0 _ h11 ?_
      rcases o12 with e | r14
      · show Ex d am_M68 scr (63, [none, none, none], [], H, c, n) res
        refine x_b 1 (S2 := (64, [none, none, none], [.int 1], H, c, n)) rfl ?_
        cases hr
        rw [kr]
        exact x_ret rfl rfl (am_ret_z (by decide))
      · cases hr; exact kr
    · refine x_cf rfl rfl (decide_eq_false h3) ?_
      refine x_fg (Lq.n (Lq.n (Lq.s Lq.nil))) ?_
      exact j_68_0_j24 hd hk hR hr kr
theorem m_68 {scr : ASc} {H : AHp} {b : Nat} {k : Nat} {B : Tx} (hk : k < 4) (hR : Rg H b (Tx.cells b B)) {o : Int32} (hr : F_68 k B = some o) : Rn scr 7 68 [.ref b, .ref (am_SB + 10 + 2 * k)] H (.inl (some (.int o)), H, 0, 0) :=
  x_meth (M := am_M68) rfl (show 2 ≤ 3 by decide) (f_68 (Nat.le_refl _) hk hR hr rfl)
def J_69_0_j29 (B : Tx) (t0 : Int32) : Option (Int32) :=
  if t0 = 0 ∨ t0 = 1 then some t0 else none
theorem j_69_0_j29 {d : Nat} (hd : 1 ≤ d) {scr : ASc} {res : ARe} {c n : Nat} {H : AHp} {b : Nat} {B : Tx} {t0 : Int32} (hR : Rg H b (Tx.cells b B)) {o : Int32} (hr : J_69_0_j29 B t0 = some o) (kr : res = (.inl (some (.int o)), H, c, n)) : Ex d am_M69 scr (29, [none, none, none], [.int t0], H, c, n) res := by
  delta J_69_0_j29 at hr
  obtain ⟨h2, hr⟩ := itn_some hr
  cases hr
  rw [kr]
  exact x_ret rfl rfl (am_ret_z h2)
def J_69_0_j28 (B : Tx) : Option (Int32) :=
  J_69_0_j29 B 0
theorem j_69_0_j28 {d : Nat} (hd : 1 ≤ d) {scr : ASc} {res : ARe} {c n : Nat} {H : AHp} {b : Nat} {B : Tx} (hR : Rg H b (Tx.cells b B)) {o : Int32} (hr : J_69_0_j28 B = some o) (kr : res = (.inl (some (.int o)), H, c, n)) : Ex d am_M69 scr (28, [none, none, none], [], H, c, n) res := by
  delta J_69_0_j28 at hr
  refine x_b 1 (S2 := (29, [none, none, none], [.int 0], H, c, n)) rfl ?_
  refine x_fg (Lq.s (Lq.s (Lq.s Lq.nil))) ?_
  exact j_69_0_j29 hd hR hr kr
/-- PebbleProofs$SetupText.isNumber(II)Z -/
def F_69 (B : Tx) (x1 : Int32) (x2 : Int32) : Option (Int32) :=
  if ¬ B.kind = 2 then
    J_69_0_j28 B
  else
    if B.value < x1 then
      J_69_0_j28 B
    else
      if x2 < B.value then
        J_69_0_j28 B
      else
        J_69_0_j29 B 1
theorem f_69 {d : Nat} (hd : 1 ≤ d) {scr : ASc} {res : ARe} {c n : Nat} {H : AHp} {b : Nat} {B : Tx} {x1 : Int32} {x2 : Int32} (hR : Rg H b (Tx.cells b B)) {o : Int32} (hr : F_69 B x1 x2 = some o) (kr : res = (.inl (some (.int o)), H, c, n)) : Ex d am_M69 scr (0, [some (.ref b), some (.int x1), some (.int x2)], [], H, c, n) res := by
  delta F_69 at hr
  refine x_ldan rfl rfl rfl (hR.lt (i := 0) (show 0 < 8 by decide)) ?_
  refine x_getf rfl rfl (hR.lt (i := 0) (show 0 < 8 by decide)) (hR.at (i := 0) rfl) rfl ?_
  refine x_b 1 (S2 := (5, [some (.ref b), some (.int x1), some (.int x2)], [.int 2, .int B.kind], H, c, n)) rfl ?_
  rcases ite_some hr with ⟨h1, hr⟩ | ⟨h1, hr⟩
  · refine x_ct rfl rfl (decide_eq_true h1) ?_
    refine x_fg (Lq.n (Lq.n (Lq.n Lq.nil))) ?_
    exact j_69_0_j28 hd hR hr kr
  · refine x_cf rfl rfl (decide_eq_false h1) ?_
    refine x_ldan rfl rfl rfl (hR.lt (i := 0) (show 0 < 8 by decide)) ?_
    refine x_getf rfl rfl (hR.lt (i := 0) (show 0 < 8 by decide)) (hR.at (i := 0) rfl) rfl ?_
    refine x_b 1 (S2 := (13, [some (.ref b), some (.int x1), some (.int x2)], [.int x1, .int B.value], H, c, n)) rfl ?_
    rcases ite_some hr with ⟨h3, hr⟩ | ⟨h3, hr⟩
    · refine x_ct rfl rfl (decide_eq_true h3) ?_
      refine x_fg (Lq.n (Lq.n (Lq.n Lq.nil))) ?_
      exact j_69_0_j28 hd hR hr kr
    · refine x_cf rfl rfl (decide_eq_false h3) ?_
      refine x_ldan rfl rfl rfl (hR.lt (i := 0) (show 0 < 8 by decide)) ?_
      refine x_getf rfl rfl (hR.lt (i := 0) (show 0 < 8 by decide)) (hR.at (i := 0) rfl) rfl ?_
      refine x_b 1 (S2 := (21, [some (.ref b), some (.int x1), some (.int x2)], [.int x2, .int B.value], H, c, n)) rfl ?_
      rcases ite_some hr with ⟨h4, hr⟩ | ⟨h4, hr⟩
      · refine x_ct rfl rfl (decide_eq_true h4) ?_
        refine x_fg (Lq.n (Lq.n (Lq.n Lq.nil))) ?_
        exact j_69_0_j28 hd hR hr kr
      · refine x_cf rfl rfl (decide_eq_false h4) ?_
        refine x_b 2 (S2 := (29, [some (.ref b), some (.int x1), some (.int x2)], [.int 1], H, c, n)) rfl ?_
        refine x_fg (Lq.n (Lq.n (Lq.n Lq.nil))) ?_
        exact j_69_0_j29 hd hR hr kr
theorem m_69 {scr : ASc} {H : AHp} {b : Nat} {B : Tx} {x1 : Int32} {x2 : Int32} (hR : Rg H b (Tx.cells b B)) {o : Int32} (hr : F_69 B x1 x2 = some o) : Rn scr 2 69 [.ref b, .int x1, .int x2] H (.inl (some (.int o)), H, 0, 0) :=
  x_meth (M := am_M69) rfl (show 3 ≤ 3 by decide) (f_69 (Nat.le_refl _) hR hr rfl)
/-- PebbleProofs$SetupText.isVertex()Z -/
def F_70 (B : Tx) : Option (Int32) :=
  (F_69 B 0 (B.draft.vertices - 1)).bind fun v2 =>
  if v2 = 0 ∨ v2 = 1 then some v2 else none
theorem f_70 {d : Nat} (hd : 2 ≤ d) {scr : ASc} {res : ARe} {c n : Nat} {H : AHp} {b : Nat} {B : Tx} (hR : Rg H b (Tx.cells b B)) {o : Int32} (hr : F_70 B = some o) (kr : res = (.inl (some (.int o)), H, c, n)) : Ex d am_M70 scr (0, [some (.ref b)], [], H, c, n) res := by
  delta F_70 at hr
  refine x_ldan rfl rfl rfl (hR.lt (i := 0) (show 0 < 8 by decide)) ?_
  refine x_b 1 (S2 := (2, [some (.ref b)], [.int 0, .ref b], H, c, n)) rfl ?_
  refine x_ldan rfl rfl rfl (hR.lt (i := 0) (show 0 < 8 by decide)) ?_
  refine x_getf rfl rfl (hR.lt (i := 0) (show 0 < 8 by decide)) (hR.at (i := 0) rfl) rfl ?_
  refine x_getf rfl rfl ((rg_draft hR).lt (i := 0) (show 0 < 6 by decide)) ((rg_draft hR).at (i := 0) rfl) rfl ?_
  refine x_b 2 (S2 := (11, [some (.ref b)], [.int (B.draft.vertices - 1), .int 0, .ref b], H, c, n)) rfl ?_
  obtain ⟨v2, h1, hr⟩ := bd_some hr
  refine x_c0 (m_69 hR h1) rfl rfl rfl rfl (am_recv_v (hR.lt (i := 0) (show 0 < 8 by decide)) (hR.at (i := 0) rfl) rfl) (by omega) ?_
  obtain ⟨h3, hr⟩ := itn_some hr
  cases hr
  rw [kr]
  exact x_ret rfl rfl (am_ret_z h3)
theorem m_70 {scr : ASc} {H : AHp} {b : Nat} {B : Tx} (hR : Rg H b (Tx.cells b B)) {o : Int32} (hr : F_70 B = some o) : Rn scr 3 70 [.ref b] H (.inl (some (.int o)), H, 0, 0) :=
  x_meth (M := am_M70) rfl (show 1 ≤ 1 by decide) (f_70 (Nat.le_refl _) hR hr rfl)
def J_71_0_j22 (B : Tx) (t0 : Int32) : Option (Int32) :=
  if t0 = 0 ∨ t0 = 1 then some t0 else none
theorem j_71_0_j22 {d : Nat} (hd : 1 ≤ d) {scr : ASc} {res : ARe} {c n : Nat} {H : AHp} {b : Nat} {B : Tx} {t0 : Int32} (hR : Rg H b (Tx.cells b B)) {o : Int32} (hr : J_71_0_j22 B t0 = some o) (kr : res = (.inl (some (.int o)), H, c, n)) : Ex d am_M71 scr (22, [none], [.int t0], H, c, n) res := by
  delta J_71_0_j22 at hr
  obtain ⟨h2, hr⟩ := itn_some hr
  cases hr
  rw [kr]
  exact x_ret rfl rfl (am_ret_z h2)
def J_71_0_j21 (B : Tx) : Option (Int32) :=
  J_71_0_j22 B 0
theorem j_71_0_j21 {d : Nat} (hd : 1 ≤ d) {scr : ASc} {res : ARe} {c n : Nat} {H : AHp} {b : Nat} {B : Tx} (hR : Rg H b (Tx.cells b B)) {o : Int32} (hr : J_71_0_j21 B = some o) (kr : res = (.inl (some (.int o)), H, c, n)) : Ex d am_M71 scr (21, [none], [], H, c, n) res := by
  delta J_71_0_j21 at hr
  refine x_b 1 (S2 := (22, [none], [.int 0], H, c, n)) rfl ?_
  refine x_fg (Lq.s Lq.nil) ?_
  exact j_71_0_j22 hd hR hr kr
/-- PebbleProofs$SetupText.isSemicolon()Z -/
def F_71 (B : Tx) : Option (Int32) :=
  if ¬ B.kind = 3 then
    J_71_0_j21 B
  else
    if ¬ B.value = 59 then
      J_71_0_j21 B
    else
      J_71_0_j22 B 1
theorem f_71 {d : Nat} (hd : 1 ≤ d) {scr : ASc} {res : ARe} {c n : Nat} {H : AHp} {b : Nat} {B : Tx} (hR : Rg H b (Tx.cells b B)) {o : Int32} (hr : F_71 B = some o) (kr : res = (.inl (some (.int o)), H, c, n)) : Ex d am_M71 scr (0, [some (.ref b)], [], H, c, n) res := by
  delta F_71 at hr
  refine x_ldan rfl rfl rfl (hR.lt (i := 0) (show 0 < 8 by decide)) ?_
  refine x_getf rfl rfl (hR.lt (i := 0) (show 0 < 8 by decide)) (hR.at (i := 0) rfl) rfl ?_
  refine x_b 1 (S2 := (5, [some (.ref b)], [.int 3, .int B.kind], H, c, n)) rfl ?_
  rcases ite_some hr with ⟨h1, hr⟩ | ⟨h1, hr⟩
  · refine x_ct rfl rfl (decide_eq_true h1) ?_
    refine x_fg (Lq.n Lq.nil) ?_
    exact j_71_0_j21 hd hR hr kr
  · refine x_cf rfl rfl (decide_eq_false h1) ?_
    refine x_ldan rfl rfl rfl (hR.lt (i := 0) (show 0 < 8 by decide)) ?_
    refine x_getf rfl rfl (hR.lt (i := 0) (show 0 < 8 by decide)) (hR.at (i := 0) rfl) rfl ?_
    refine x_b 1 (S2 := (14, [some (.ref b)], [.int 59, .int B.value], H, c, n)) rfl ?_
    rcases ite_some hr with ⟨h3, hr⟩ | ⟨h3, hr⟩
    · refine x_ct rfl rfl (decide_eq_true h3) ?_
      refine x_fg (Lq.n Lq.nil) ?_
      exact j_71_0_j21 hd hR hr kr
    · refine x_cf rfl rfl (decide_eq_false h3) ?_
      refine x_b 2 (S2 := (22, [some (.ref b)], [.int 1], H, c, n)) rfl ?_
      refine x_fg (Lq.n Lq.nil) ?_
      exact j_71_0_j22 hd hR hr kr
theorem m_71 {scr : ASc} {H : AHp} {b : Nat} {B : Tx} (hR : Rg H b (Tx.cells b B)) {o : Int32} (hr : F_71 B = some o) : Rn scr 2 71 [.ref b] H (.inl (some (.int o)), H, 0, 0) :=
  x_meth (M := am_M71) rfl (show 1 ≤ 1 by decide) (f_71 (Nat.le_refl _) hR hr rfl)
/-- PebbleProofs$SetupText.readVertices()Z -/
def F_73 (B : Tx) : Option (Int32 × Tx) :=
  (F_68 0 B).bind fun v2 =>
  if ¬ v2 = 0 then
    (F_66 B).bind fun B5 =>
    (F_69 B5 1 6).bind fun v7 =>
    if ¬ v7 = 0 then
      (F_1 B5.draft B5.value).bind fun o10 =>
      (some (B5.w_draft o10)).bind fun B11 =>
      (F_66 B11).bind fun B14 =>
      some (1, B14)
    else
      some (0, B5)
  else
    some (0, B)
theorem f_73 {d : Nat} (hd : 7 ≤ d) {scr : ASc} {res : ARe} {c n : Nat} {h : AHp} {b : Nat} (hb : b + 8 ≤ am_SB) (hh : b + 8 ≤ h.length) {B : Tx} {o : Int32 × Tx} (hr : F_73 B = some o) (kr : res = (.inl (some (.int o.1)), hput h b (Tx.cells b o.2), c, n)) : Ex d am_M73 scr (0, [some (.ref b)], [], (hput h b (Tx.cells b B)), c, n) res := by
  delta F_73 at hr
  refine x_ldan rfl rfl rfl ((hp_rg (L := Tx.cells b B) hb hh rfl).lt (i := 0) (show 0 < 8 by decide)) ?_
  refine x_b 1 (S2 := (3, [some (.ref b)], [.ref (am_SB + 10 + 2 * 0), .ref b], (hput h b (Tx.cells b B)), c, n)) rfl ?_
  obtain ⟨v2, h1, hr⟩ := bd_some hr
  refine x_c0 (m_68 (by decide) (hp_rg (L := Tx.cells b B) hb hh rfl) h1) rfl rfl rfl rfl (am_recv_v ((hp_rg (L := Tx.cells b B) hb hh rfl).lt (i := 0) (show 0 < 8 by decide)) ((hp_rg (L := Tx.cells b B) hb hh rfl).at (i := 0) rfl) rfl) (by omega) ?_
  rcases ite_some hr with ⟨h3, hr⟩ | ⟨h3, hr⟩
  · refine x_zt rfl rfl (decide_eq_true h3) ?_
    refine x_ldan rfl rfl rfl ((hp_rg (L := Tx.cells b B) hb hh rfl).lt (i := 0) (show 0 < 8 by decide)) ?_
    obtain ⟨B5, h4, hr⟩ := bd_some hr
    refine x_c0 (m_66 hb hh h4) rfl rfl rfl rfl (am_recv_v ((hp_rg (L := Tx.cells b B) hb hh rfl).lt (i := 0) (show 0 < 8 by decide)) ((hp_rg (L := Tx.cells b B) hb hh rfl).at (i := 0) rfl) rfl) (by omega) ?_
    refine x_ldan rfl rfl rfl ((hp_rg (L := Tx.cells b B5) hb hh rfl).lt (i := 0) (show 0 < 8 by decide)) ?_
    refine x_b 2 (S2 := (19, [some (.ref b)], [.int 6, .int 1, .ref b], (hput h b (Tx.cells b B5)), c, n)) rfl ?_
    obtain ⟨v7, h6, hr⟩ := bd_some hr
    refine x_c0 (m_69 (hp_rg (L := Tx.cells b B5) hb hh rfl) h6) rfl rfl rfl rfl (am_recv_v ((hp_rg (L := Tx.cells b B5) hb hh rfl).lt (i := 0) (show 0 < 8 by decide)) ((hp_rg (L := Tx.cells b B5) hb hh rfl).at (i := 0) rfl) rfl) (by omega) ?_
    rcases ite_some hr with ⟨h8, hr⟩ | ⟨h8, hr⟩
    · refine x_zt rfl rfl (decide_eq_true h8) ?_
      refine x_ldan rfl rfl rfl ((hp_rg (L := Tx.cells b B5) hb hh rfl).lt (i := 0) (show 0 < 8 by decide)) ?_
      refine x_getf rfl rfl ((hp_rg (L := Tx.cells b B5) hb hh rfl).lt (i := 0) (show 0 < 8 by decide)) ((hp_rg (L := Tx.cells b B5) hb hh rfl).at (i := 0) rfl) rfl ?_
      refine x_ldan rfl rfl rfl ((hp_rg (L := Tx.cells b B5) hb hh rfl).lt (i := 0) (show 0 < 8 by decide)) ?_
      refine x_getf rfl rfl ((hp_rg (L := Tx.cells b B5) hb hh rfl).lt (i := 0) (show 0 < 8 by decide)) ((hp_rg (L := Tx.cells b B5) hb hh rfl).at (i := 0) rfl) rfl ?_
      obtain ⟨o10, h9, hr⟩ := bd_some hr
      obtain ⟨B11, h12, hr⟩ := bd_some hr
      refine x_c0 (wc_draft hb hh (fun H hb hh => m_1 hb hh h9) h12) rfl rfl rfl rfl (am_recv_v ((rg_draft (hp_rg (L := Tx.cells b B5) hb hh rfl)).lt (i := 0) (show 0 < 6 by decide)) ((rg_draft (hp_rg (L := Tx.cells b B5) hb hh rfl)).at (i := 0) rfl) rfl) (by omega) ?_
      refine x_ldan rfl rfl rfl ((hp_rg (L := Tx.cells b B11) hb hh rfl).lt (i := 0) (show 0 < 8 by decide)) ?_
      obtain ⟨B14, h13, hr⟩ := bd_some hr
      refine x_c0 (m_66 hb hh h13) rfl rfl rfl rfl (am_recv_v ((hp_rg (L := Tx.cells b B11) hb hh rfl).lt (i := 0) (show 0 < 8 by decide)) ((hp_rg (L := Tx.cells b B11) hb hh rfl).at (i := 0) rfl) rfl) (by omega) ?_
      refine x_b 1 (S2 := (43, [some (.ref b)], [.int 1], (hput h b (Tx.cells b B14)), c, n)) rfl ?_
      cases hr
      rw [kr]
      exact x_ret rfl rfl (am_ret_z (by decide))
    · refine x_zf rfl rfl (decide_eq_false h8) ?_
      refine x_b 1 (S2 := (26, [some (.ref b)], [.int 0], (hput h b (Tx.cells b B5)), c, n)) rfl ?_
      cases hr
      rw [kr]
      exact x_ret rfl rfl (am_ret_z (by decide))
  · refine x_zf rfl rfl (decide_eq_false h3) ?_
    refine x_b 1 (S2 := (10, [some (.ref b)], [.int 0], (hput h b (Tx.cells b B)), c, n)) rfl ?_
    cases hr
    rw [kr]
    exact x_ret rfl rfl (am_ret_z (by decide))
theorem m_73 {scr : ASc} {h : AHp} {b : Nat} (hb : b + 8 ≤ am_SB) (hh : b + 8 ≤ h.length) {B : Tx} {o : Int32 × Tx} (hr : F_73 B = some o) : Rn scr 8 73 [.ref b] (hput h b (Tx.cells b B)) (.inl (some (.int o.1)), hput h b (Tx.cells b o.2), 0, 0) :=
  x_meth (M := am_M73) rfl (show 1 ≤ 1 by decide) (f_73 (Nat.le_refl _) hb hh hr rfl)
abbrev P_75_24 (h : AHp) (b : Nat) (c n : Nat)  (s : Int32 × Int32 × Tx) : ASt := (24, [some (.ref b), some (.int s.1), some (.int s.2.1)], [], (hput h b (Tx.cells b s.2.2)), c, n)
abbrev PX_75_24 (h : AHp) (b : Nat) (c n : Nat)  (s : Tx) : ASt := (102, [none, none, none], [], (hput h b (Tx.cells b s)), c, n)
def J_75_24_j73 (B : Tx) : Option ((Int32 × Int32 × Tx) ⊕ (Tx) ⊕ (Int32 × Tx)) :=
  some (.inr (.inr (0, B)))
theorem j_75_24_j73 {d : Nat} (hd : 3 ≤ d) {scr : ASc} {res : ARe} {c n : Nat} {h : AHp} {b : Nat} (hb : b + 8 ≤ am_SB) (hh : b + 8 ≤ h.length) {B : Tx} {o : (Int32 × Int32 × Tx) ⊕ (Tx) ⊕ (Int32 × Tx)} (hr : J_75_24_j73 B = some o) (ka : ∀ s, o = .inl s → Ex d am_M75 scr (P_75_24 h b c n  s) res) (kx : ∀ s, o = .inr (.inl s) → Ex d am_M75 scr (PX_75_24 h b c n  s) res) (kr : ∀ r, o = .inr (.inr r) → res = (.inl (some (.int r.1)), hput h b (Tx.cells b r.2), c, n)) : Ex d am_M75 scr (73, [none, none, none], [], (hput h b (Tx.cells b B)), c, n) res := by
  delta J_75_24_j73 at hr
  refine x_b 1 (S2 := (74, [none, none, none], [.int 0], (hput h b (Tx.cells b B)), c, n)) rfl ?_
  rw [kr _ (Option.some.inj hr).symm]
  exact x_ret rfl rfl (am_ret_z (by decide))
def J_75_24_j43 (B : Tx) (x1 : Int32) (x2 : Int32) : Option ((Int32 × Int32 × Tx) ⊕ (Tx) ⊕ (Int32 × Tx)) :=
  (F_70 B).bind fun v11 =>
  if v11 = 0 then
    J_75_24_j73 B
  else
    if B.value = x1 then
      J_75_24_j73 B
    else
      (F_6 B.draft x1 B.value).bind fun v16 =>
      if v16 = 0 then
        (F_4 B.draft x1 B.value).bind fun o19 =>
        (some (B.w_draft o19)).bind fun B20 =>
        (F_66 B20).bind fun B23 =>
        some (.inl (B20.value, (x2 + 1), B23))
      else
        J_75_24_j73 B
theorem j_75_24_j43 {d : Nat} (hd : 3 ≤ d) {scr : ASc} {res : ARe} {c n : Nat} {h : AHp} {b : Nat} (hb : b + 8 ≤ am_SB) (hh : b + 8 ≤ h.length) {B : Tx} {x1 : Int32} {x2 : Int32} {o : (Int32 × Int32 × Tx) ⊕ (Tx) ⊕ (Int32 × Tx)} (hr : J_75_24_j43 B x1 x2 = some o) (ka : ∀ s, o = .inl s → Ex d am_M75 scr (P_75_24 h b c n  s) res) (kx : ∀ s, o = .inr (.inl s) → Ex d am_M75 scr (PX_75_24 h b c n  s) res) (kr : ∀ r, o = .inr (.inr r) → res = (.inl (some (.int r.1)), hput h b (Tx.cells b r.2), c, n)) : Ex d am_M75 scr (43, [some (.ref b), some (.int x1), some (.int x2)], [], (hput h b (Tx.cells b B)), c, n) res := by
  delta J_75_24_j43 at hr
  refine x_ldan rfl rfl rfl ((hp_rg (L := Tx.cells b B) hb hh rfl).lt (i := 0) (show 0 < 8 by decide)) ?_
  obtain ⟨v11, h10, hr⟩ := bd_some hr
  refine x_c0 (m_70 (hp_rg (L := Tx.cells b B) hb hh rfl) h10) rfl rfl rfl rfl (am_recv_v ((hp_rg (L := Tx.cells b B) hb hh rfl).lt (i := 0) (show 0 < 8 by decide)) ((hp_rg (L := Tx.cells b B) hb hh rfl).at (i := 0) rfl) rfl) (by omega) ?_
  rcases ite_some hr with ⟨h12, hr⟩ | ⟨h12, hr⟩
  · refine x_zt rfl rfl (decide_eq_true h12) ?_
    refine x_fg (Lq.n (Lq.n (Lq.n Lq.nil))) ?_
    exact j_75_24_j73 hd hb hh hr ka kx kr
  · refine x_zf rfl rfl (decide_eq_false h12) ?_
    refine x_ldan rfl rfl rfl ((hp_rg (L := Tx.cells b B) hb hh rfl).lt (i := 0) (show 0 < 8 by decide)) ?_
    refine x_getf rfl rfl ((hp_rg (L := Tx.cells b B) hb hh rfl).lt (i := 0) (show 0 < 8 by decide)) ((hp_rg (L := Tx.cells b B) hb hh rfl).at (i := 0) rfl) rfl ?_
    refine x_b 1 (S2 := (55, [some (.ref b), some (.int x1), some (.int x2)], [.int x1, .int B.value], (hput h b (Tx.cells b B)), c, n)) rfl ?_
    rcases ite_some hr with ⟨h14, hr⟩ | ⟨h14, hr⟩
    · refine x_ct rfl rfl (decide_eq_true h14) ?_
      refine x_fg (Lq.n (Lq.n (Lq.n Lq.nil))) ?_
      exact j_75_24_j73 hd hb hh hr ka kx kr
    · refine x_cf rfl rfl (decide_eq_false h14) ?_
      refine x_ldan rfl rfl rfl ((hp_rg (L := Tx.cells b B) hb hh rfl).lt (i := 0) (show 0 < 8 by decide)) ?_
      refine x_getf rfl rfl ((hp_rg (L := Tx.cells b B) hb hh rfl).lt (i := 0) (show 0 < 8 by decide)) ((hp_rg (L := Tx.cells b B) hb hh rfl).at (i := 0) rfl) rfl ?_
      refine x_b 1 (S2 := (63, [some (.ref b), some (.int x1), some (.int x2)], [.int x1, .ref (b + 2)], (hput h b (Tx.cells b B)), c, n)) rfl ?_
      refine x_ldan rfl rfl rfl ((hp_rg (L := Tx.cells b B) hb hh rfl).lt (i := 0) (show 0 < 8 by decide)) ?_
      refine x_getf rfl rfl ((hp_rg (L := Tx.cells b B) hb hh rfl).lt (i := 0) (show 0 < 8 by decide)) ((hp_rg (L := Tx.cells b B) hb hh rfl).at (i := 0) rfl) rfl ?_
      obtain ⟨v16, h15, hr⟩ := bd_some hr
      refine x_c0 (m_6 (rg_draft (hp_rg (L := Tx.cells b B) hb hh rfl)) h15) rfl rfl rfl rfl (am_recv_v ((rg_draft (hp_rg (L := Tx.cells b B) hb hh rfl)).lt (i := 0) (show 0 < 6 by decide)) ((rg_draft (hp_rg (L := Tx.cells b B) hb hh rfl)).at (i := 0) rfl) rfl) (by omega) ?_
      rcases ite_some hr with ⟨h17, hr⟩ | ⟨h17, hr⟩
      · refine x_zt rfl rfl (decide_eq_true h17) ?_
        refine x_ldan rfl rfl rfl ((hp_rg (L := Tx.cells b B) hb hh rfl).lt (i := 0) (show 0 < 8 by decide)) ?_
        refine x_getf rfl rfl ((hp_rg (L := Tx.cells b B) hb hh rfl).lt (i := 0) (show 0 < 8 by decide)) ((hp_rg (L := Tx.cells b B) hb hh rfl).at (i := 0) rfl) rfl ?_
        refine x_b 1 (S2 := (80, [some (.ref b), some (.int x1), some (.int x2)], [.int x1, .ref (b + 2)], (hput h b (Tx.cells b B)), c, n)) rfl ?_
        refine x_ldan rfl rfl rfl ((hp_rg (L := Tx.cells b B) hb hh rfl).lt (i := 0) (show 0 < 8 by decide)) ?_
        refine x_getf rfl rfl ((hp_rg (L := Tx.cells b B) hb hh rfl).lt (i := 0) (show 0 < 8 by decide)) ((hp_rg (L := Tx.cells b B) hb hh rfl).at (i := 0) rfl) rfl ?_
        obtain ⟨o19, h18, hr⟩ := bd_some hr
        obtain ⟨B20, h21, hr⟩ := bd_some hr
        refine x_c0 (wc_draft hb hh (fun H hb hh => m_4 hb hh h18) h21) rfl rfl rfl rfl (am_recv_v ((rg_draft (hp_rg (L := Tx.cells b B) hb hh rfl)).lt (i := 0) (show 0 < 6 by decide)) ((rg_draft (hp_rg (L := Tx.cells b B) hb hh rfl)).at (i := 0) rfl) rfl) (by omega) ?_
        refine x_ldan rfl rfl rfl ((hp_rg (L := Tx.cells b B20) hb hh rfl).lt (i := 0) (show 0 < 8 by decide)) ?_
        refine x_getf rfl rfl ((hp_rg (L := Tx.cells b B20) hb hh rfl).lt (i := 0) (show 0 < 8 by decide)) ((hp_rg (L := Tx.cells b B20) hb hh rfl).at (i := 0) rfl) rfl ?_
        refine x_b 1 (S2 := (92, [some (.ref b), some (.int B20.value), some (.int x2)], [], (hput h b (Tx.cells b B20)), c, n)) rfl ?_
        refine x_ldan rfl rfl rfl ((hp_rg (L := Tx.cells b B20) hb hh rfl).lt (i := 0) (show 0 < 8 by decide)) ?_
        obtain ⟨B23, h22, hr⟩ := bd_some hr
        refine x_c0 (m_66 hb hh h22) rfl rfl rfl rfl (am_recv_v ((hp_rg (L := Tx.cells b B20) hb hh rfl).lt (i := 0) (show 0 < 8 by decide)) ((hp_rg (L := Tx.cells b B20) hb hh rfl).at (i := 0) rfl) rfl) (by omega) ?_
        refine x_b 2 (S2 := (24, [some (.ref b), some (.int B20.value), some (.int (x2 + 1))], [], (hput h b (Tx.cells b B23)), c, n)) rfl ?_
        refine x_fg (Lq.s (Lq.s (Lq.s Lq.nil))) ?_
        exact ka (B20.value, (x2 + 1), B23) (Option.some.inj hr).symm
      · refine x_zf rfl rfl (decide_eq_false h17) ?_
        refine x_fg (Lq.n (Lq.n (Lq.n Lq.nil))) ?_
        exact j_75_24_j73 hd hb hh hr ka kx kr
def G_75_24  (s : Int32 × Int32 × Tx) : Option ((Int32 × Int32 × Tx) ⊕ (Tx) ⊕ (Int32 × Tx)) := 
  match s with
  | (x1, x2, B) =>
    if 400 ≤ x2 then
      some (.inr (.inl B))
    else
      if x2 = 0 then
        J_75_24_j43 B x1 x2
      else
        if ¬ B.kind = 2 then
          some (.inr (.inl B))
        else
          J_75_24_j43 B x1 x2
theorem g_75_24 {d : Nat} (hd : 3 ≤ d) {scr : ASc} {res : ARe} {c n : Nat} {h : AHp} {b : Nat} (hb : b + 8 ≤ am_SB) (hh : b + 8 ≤ h.length)  {s : Int32 × Int32 × Tx} {o : (Int32 × Int32 × Tx) ⊕ (Tx) ⊕ (Int32 × Tx)} (hr : G_75_24  s = some o) (ka : ∀ s, o = .inl s → Ex d am_M75 scr (P_75_24 h b c n  s) res) (kx : ∀ s, o = .inr (.inl s) → Ex d am_M75 scr (PX_75_24 h b c n  s) res) (kr : ∀ r, o = .inr (.inr r) → res = (.inl (some (.int r.1)), hput h b (Tx.cells b r.2), c, n)) : Ex d am_M75 scr (P_75_24 h b c n  s) res := by
  obtain ⟨x1, x2, B⟩ := s
  delta G_75_24 at hr
  show Ex d am_M75 scr (24, [some (.ref b), some (.int x1), some (.int x2)], [], (hput h b (Tx.cells b B)), c, n) res
  refine x_b 2 (S2 := (28, [some (.ref b), some (.int x1), some (.int x2)], [.int 400, .int x2], (hput h b (Tx.cells b B)), c, n)) rfl ?_
  rcases ite_some hr with ⟨h8, hr⟩ | ⟨h8, hr⟩
  · refine x_ct rfl rfl (decide_eq_true h8) ?_
    refine x_fg (Lq.n (Lq.n (Lq.n Lq.nil))) ?_
    exact kx B (Option.some.inj hr).symm
  · refine x_cf rfl rfl (decide_eq_false h8) ?_
    refine x_b 1 (S2 := (32, [some (.ref b), some (.int x1), some (.int x2)], [.int x2], (hput h b (Tx.cells b B)), c, n)) rfl ?_
    rcases ite_some hr with ⟨h9, hr⟩ | ⟨h9, hr⟩
    · refine x_zt rfl rfl (decide_eq_true h9) ?_
      refine x_fg (Lq.s (Lq.s (Lq.s Lq.nil))) ?_
      exact j_75_24_j43 hd hb hh hr ka kx kr
    · refine x_zf rfl rfl (decide_eq_false h9) ?_
      refine x_ldan rfl rfl rfl ((hp_rg (L := Tx.cells b B) hb hh rfl).lt (i := 0) (show 0 < 8 by decide)) ?_
      refine x_getf rfl rfl ((hp_rg (L := Tx.cells b B) hb hh rfl).lt (i := 0) (show 0 < 8 by decide)) ((hp_rg (L := Tx.cells b B) hb hh rfl).at (i := 0) rfl) rfl ?_
      refine x_b 1 (S2 := (40, [some (.ref b), some (.int x1), some (.int x2)], [.int 2, .int B.kind], (hput h b (Tx.cells b B)), c, n)) rfl ?_
      rcases ite_some hr with ⟨h24, hr⟩ | ⟨h24, hr⟩
      · refine x_ct rfl rfl (decide_eq_true h24) ?_
        refine x_fg (Lq.n (Lq.n (Lq.n Lq.nil))) ?_
        exact kx B (Option.some.inj hr).symm
      · refine x_cf rfl rfl (decide_eq_false h24) ?_
        refine x_fg (Lq.s (Lq.s (Lq.s Lq.nil))) ?_
        exact j_75_24_j43 hd hb hh hr ka kx kr
def J_75_0_j102 (B : Tx) : Option (Int32 × Tx) :=
  some (1, B)
theorem j_75_0_j102 {d : Nat} (hd : 3 ≤ d) {scr : ASc} {res : ARe} {c n : Nat} {h : AHp} {b : Nat} (hb : b + 8 ≤ am_SB) (hh : b + 8 ≤ h.length) {B : Tx} {o : Int32 × Tx} (hr : J_75_0_j102 B = some o) (kr : res = (.inl (some (.int o.1)), hput h b (Tx.cells b o.2), c, n)) : Ex d am_M75 scr (102, [none, none, none], [], (hput h b (Tx.cells b B)), c, n) res := by
  delta J_75_0_j102 at hr
  refine x_b 1 (S2 := (103, [none, none, none], [.int 1], (hput h b (Tx.cells b B)), c, n)) rfl ?_
  cases hr
  rw [kr]
  exact x_ret rfl rfl (am_ret_z (by decide))
/-- PebbleProofs$SetupText.readPath()Z -/
def F_75 (B : Tx) : Option (Int32 × Tx) :=
  (F_66 B).bind fun B2 =>
  (F_70 B2).bind fun v4 =>
  if ¬ v4 = 0 then
    (F_66 B2).bind fun B7 =>
    (lw (G_75_24 ) 200000 (B2.value, 0, B7)).bind fun r =>
      match r with
      | .inr r29 => some r29
      | .inl B26 =>
        J_75_0_j102 B26
  else
    some (0, B2)
theorem f_75 {d : Nat} (hd : 3 ≤ d) {scr : ASc} {res : ARe} {c n : Nat} {h : AHp} {b : Nat} (hb : b + 8 ≤ am_SB) (hh : b + 8 ≤ h.length) {B : Tx} {o : Int32 × Tx} (hr : F_75 B = some o) (kr : res = (.inl (some (.int o.1)), hput h b (Tx.cells b o.2), c, n)) : Ex d am_M75 scr (0, [some (.ref b), none, none], [], (hput h b (Tx.cells b B)), c, n) res := by
  delta F_75 at hr
  refine x_ldan rfl rfl rfl ((hp_rg (L := Tx.cells b B) hb hh rfl).lt (i := 0) (show 0 < 8 by decide)) ?_
  obtain ⟨B2, h1, hr⟩ := bd_some hr
  refine x_c0 (m_66 hb hh h1) rfl rfl rfl rfl (am_recv_v ((hp_rg (L := Tx.cells b B) hb hh rfl).lt (i := 0) (show 0 < 8 by decide)) ((hp_rg (L := Tx.cells b B) hb hh rfl).at (i := 0) rfl) rfl) (by omega) ?_
  refine x_ldan rfl rfl rfl ((hp_rg (L := Tx.cells b B2) hb hh rfl).lt (i := 0) (show 0 < 8 by decide)) ?_
  obtain ⟨v4, h3, hr⟩ := bd_some hr
  refine x_c0 (m_70 (hp_rg (L := Tx.cells b B2) hb hh rfl) h3) rfl rfl rfl rfl (am_recv_v ((hp_rg (L := Tx.cells b B2) hb hh rfl).lt (i := 0) (show 0 < 8 by decide)) ((hp_rg (L := Tx.cells b B2) hb hh rfl).at (i := 0) rfl) rfl) (by omega) ?_
  rcases ite_some hr with ⟨h5, hr⟩ | ⟨h5, hr⟩
  · refine x_zt rfl rfl (decide_eq_true h5) ?_
    refine x_ldan rfl rfl rfl ((hp_rg (L := Tx.cells b B2) hb hh rfl).lt (i := 0) (show 0 < 8 by decide)) ?_
    refine x_getf rfl rfl ((hp_rg (L := Tx.cells b B2) hb hh rfl).lt (i := 0) (show 0 < 8 by decide)) ((hp_rg (L := Tx.cells b B2) hb hh rfl).at (i := 0) rfl) rfl ?_
    refine x_b 1 (S2 := (18, [some (.ref b), some (.int B2.value), none], [], (hput h b (Tx.cells b B2)), c, n)) rfl ?_
    refine x_ldan rfl rfl rfl ((hp_rg (L := Tx.cells b B2) hb hh rfl).lt (i := 0) (show 0 < 8 by decide)) ?_
    obtain ⟨B7, h6, hr⟩ := bd_some hr
    refine x_c0 (m_66 hb hh h6) rfl rfl rfl rfl (am_recv_v ((hp_rg (L := Tx.cells b B2) hb hh rfl).lt (i := 0) (show 0 < 8 by decide)) ((hp_rg (L := Tx.cells b B2) hb hh rfl).at (i := 0) rfl) rfl) (by omega) ?_
    refine x_b 2 (S2 := (24, [some (.ref b), some (.int B2.value), some (.int 0)], [], (hput h b (Tx.cells b B7)), c, n)) rfl ?_
    refine x_fg (Lq.s (Lq.s (Lq.s Lq.nil))) ?_
    obtain ⟨o27, h25, hr⟩ := bd_some hr
    refine x_lw (P := P_75_24 h b c n ) (Q := fun x => match x with | .inl e => Ex d am_M75 scr (PX_75_24 h b c n  e) res | .inr r => res = (.inl (some (.int r.1)), hput h b (Tx.cells b r.2), c, n)) (fun s o h1 ka kx => g_75_24 hd hb hh h1 ka (fun e he => kx (.inl e) he) (fun r he => kx (.inr r) he)) _ (B2.value, 0, B7) _ h25 ?_
    rcases o27 with B26 | r29
    · show Ex d am_M75 scr (102, [none, none, none], [], (hput h b (Tx.cells b B26)), c, n) res
      refine x_fg (Lq.s (Lq.s (Lq.s Lq.nil))) ?_
      exact j_75_0_j102 hd hb hh hr kr
    · cases hr; exact kr
  · refine x_zf rfl rfl (decide_eq_false h5) ?_
    refine x_b 1 (S2 := (12, [some (.ref b), none, none], [.int 0], (hput h b (Tx.cells b B2)), c, n)) rfl ?_
    cases hr
    rw [kr]
    exact x_ret rfl rfl (am_ret_z (by decide))
theorem m_75 {scr : ASc} {h : AHp} {b : Nat} (hb : b + 8 ≤ am_SB) (hh : b + 8 ≤ h.length) {B : Tx} {o : Int32 × Tx} (hr : F_75 B = some o) : Rn scr 4 75 [.ref b] (hput h b (Tx.cells b B)) (.inl (some (.int o.1)), hput h b (Tx.cells b o.2), 0, 0) :=
  x_meth (M := am_M75) rfl (show 1 ≤ 3 by decide) (f_75 (Nat.le_refl _) hb hh hr rfl)
/-- PebbleProofs$SetupText.readPile()Z -/
def F_76 (B : Tx) : Option (Int32 × Tx) :=
  (F_66 B).bind fun B2 =>
  (F_70 B2).bind fun v4 =>
  if ¬ v4 = 0 then
    (F_66 B2).bind fun B7 =>
    (F_69 B7 0 999).bind fun v9 =>
    if ¬ v9 = 0 then
      (ix B2.value 6).bind fun i11 =>
      (some (B7.draft.w_pile (upd B7.draft.pile i11 B7.value))).bind fun o13 =>
      (some (B7.w_draft o13)).bind fun B15 =>
      (F_66 B15).bind fun B18 =>
      some (1, B18)
    else
      some (0, B7)
  else
    some (0, B2)
theorem f_76 {d : Nat} (hd : 3 ≤ d) {scr : ASc} {res : ARe} {c n : Nat} {h : AHp} {b : Nat} (hb : b + 8 ≤ am_SB) (hh : b + 8 ≤ h.length) {B : Tx} {o : Int32 × Tx} (hr : F_76 B = some o) (kr : res = (.inl (some (.int o.1)), hput h b (Tx.cells b o.2), c, n)) : Ex d am_M76 scr (0, [some (.ref b), none], [], (hput h b (Tx.cells b B)), c, n) res := by
  delta F_76 at hr
  refine x_ldan rfl rfl rfl ((hp_rg (L := Tx.cells b B) hb hh rfl).lt (i := 0) (show 0 < 8 by decide)) ?_
  obtain ⟨B2, h1, hr⟩ := bd_some hr
  refine x_c0 (m_66 hb hh h1) rfl rfl rfl rfl (am_recv_v ((hp_rg (L := Tx.cells b B) hb hh rfl).lt (i := 0) (show 0 < 8 by decide)) ((hp_rg (L := Tx.cells b B) hb hh rfl).at (i := 0) rfl) rfl) (by omega) ?_
  refine x_ldan rfl rfl rfl ((hp_rg (L := Tx.cells b B2) hb hh rfl).lt (i := 0) (show 0 < 8 by decide)) ?_
  obtain ⟨v4, h3, hr⟩ := bd_some hr
  refine x_c0 (m_70 (hp_rg (L := Tx.cells b B2) hb hh rfl) h3) rfl rfl rfl rfl (am_recv_v ((hp_rg (L := Tx.cells b B2) hb hh rfl).lt (i := 0) (show 0 < 8 by decide)) ((hp_rg (L := Tx.cells b B2) hb hh rfl).at (i := 0) rfl) rfl) (by omega) ?_
  rcases ite_some hr with ⟨h5, hr⟩ | ⟨h5, hr⟩
  · refine x_zt rfl rfl (decide_eq_true h5) ?_
    refine x_ldan rfl rfl rfl ((hp_rg (L := Tx.cells b B2) hb hh rfl).lt (i := 0) (show 0 < 8 by decide)) ?_
    refine x_getf rfl rfl ((hp_rg (L := Tx.cells b B2) hb hh rfl).lt (i := 0) (show 0 < 8 by decide)) ((hp_rg (L := Tx.cells b B2) hb hh rfl).at (i := 0) rfl) rfl ?_
    refine x_b 1 (S2 := (18, [some (.ref b), some (.int B2.value)], [], (hput h b (Tx.cells b B2)), c, n)) rfl ?_
    refine x_ldan rfl rfl rfl ((hp_rg (L := Tx.cells b B2) hb hh rfl).lt (i := 0) (show 0 < 8 by decide)) ?_
    obtain ⟨B7, h6, hr⟩ := bd_some hr
    refine x_c0 (m_66 hb hh h6) rfl rfl rfl rfl (am_recv_v ((hp_rg (L := Tx.cells b B2) hb hh rfl).lt (i := 0) (show 0 < 8 by decide)) ((hp_rg (L := Tx.cells b B2) hb hh rfl).at (i := 0) rfl) rfl) (by omega) ?_
    refine x_ldan rfl rfl rfl ((hp_rg (L := Tx.cells b B7) hb hh rfl).lt (i := 0) (show 0 < 8 by decide)) ?_
    refine x_b 2 (S2 := (27, [some (.ref b), some (.int B2.value)], [.int 999, .int 0, .ref b], (hput h b (Tx.cells b B7)), c, n)) rfl ?_
    obtain ⟨v9, h8, hr⟩ := bd_some hr
    refine x_c0 (m_69 (hp_rg (L := Tx.cells b B7) hb hh rfl) h8) rfl rfl rfl rfl (am_recv_v ((hp_rg (L := Tx.cells b B7) hb hh rfl).lt (i := 0) (show 0 < 8 by decide)) ((hp_rg (L := Tx.cells b B7) hb hh rfl).at (i := 0) rfl) rfl) (by omega) ?_
    rcases ite_some hr with ⟨h10, hr⟩ | ⟨h10, hr⟩
    · refine x_zt rfl rfl (decide_eq_true h10) ?_
      refine x_ldan rfl rfl rfl ((hp_rg (L := Tx.cells b B7) hb hh rfl).lt (i := 0) (show 0 < 8 by decide)) ?_
      refine x_getf rfl rfl ((hp_rg (L := Tx.cells b B7) hb hh rfl).lt (i := 0) (show 0 < 8 by decide)) ((hp_rg (L := Tx.cells b B7) hb hh rfl).at (i := 0) rfl) rfl ?_
      refine x_getf rfl rfl ((rg_draft (hp_rg (L := Tx.cells b B7) hb hh rfl)).lt (i := 0) (show 0 < 6 by decide)) ((rg_draft (hp_rg (L := Tx.cells b B7) hb hh rfl)).at (i := 0) rfl) rfl ?_
      refine x_b 1 (S2 := (43, [some (.ref b), some (.int B2.value)], [.int B2.value, .ref (b + 2 + 1)], (hput h b (Tx.cells b B7)), c, n)) rfl ?_
      refine x_ldan rfl rfl rfl ((hp_rg (L := Tx.cells b B7) hb hh rfl).lt (i := 0) (show 0 < 8 by decide)) ?_
      refine x_getf rfl rfl ((hp_rg (L := Tx.cells b B7) hb hh rfl).lt (i := 0) (show 0 < 8 by decide)) ((hp_rg (L := Tx.cells b B7) hb hh rfl).at (i := 0) rfl) rfl ?_
      obtain ⟨i11, h12, hr⟩ := bd_some hr
      obtain ⟨o13, h14, hr⟩ := bd_some hr
      obtain ⟨B15, h16, hr⟩ := bd_some hr
      refine x_iast (H := (hput h b (Tx.cells b B15))) rfl rfl ((rg_draft (hp_rg (L := Tx.cells b B7) hb hh rfl)).lt (i := 1) (show 1 < 6 by decide)) ((rg_draft (hp_rg (L := Tx.cells b B7) hb hh rfl)).at (i := 1) rfl) h12 (hp_set (i := 2 + 1) hh rfl (by decide) (ws_draft (i := 1) (Bd.s_pile h14) h16)) ?_
      refine x_ldan rfl rfl rfl ((hp_rg (L := Tx.cells b B15) hb hh rfl).lt (i := 0) (show 0 < 8 by decide)) ?_
      obtain ⟨B18, h17, hr⟩ := bd_some hr
      refine x_c0 (m_66 hb hh h17) rfl rfl rfl rfl (am_recv_v ((hp_rg (L := Tx.cells b B15) hb hh rfl).lt (i := 0) (show 0 < 8 by decide)) ((hp_rg (L := Tx.cells b B15) hb hh rfl).at (i := 0) rfl) rfl) (by omega) ?_
      refine x_b 1 (S2 := (53, [some (.ref b), some (.int B2.value)], [.int 1], (hput h b (Tx.cells b B18)), c, n)) rfl ?_
      cases hr
      rw [kr]
      exact x_ret rfl rfl (am_ret_z (by decide))
    · refine x_zf rfl rfl (decide_eq_false h10) ?_
      refine x_b 1 (S2 := (34, [some (.ref b), some (.int B2.value)], [.int 0], (hput h b (Tx.cells b B7)), c, n)) rfl ?_
      cases hr
      rw [kr]
      exact x_ret rfl rfl (am_ret_z (by decide))
  · refine x_zf rfl rfl (decide_eq_false h5) ?_
    refine x_b 1 (S2 := (12, [some (.ref b), none], [.int 0], (hput h b (Tx.cells b B2)), c, n)) rfl ?_
    cases hr
    rw [kr]
    exact x_ret rfl rfl (am_ret_z (by decide))
theorem m_76 {scr : ASc} {h : AHp} {b : Nat} (hb : b + 8 ≤ am_SB) (hh : b + 8 ≤ h.length) {B : Tx} {o : Int32 × Tx} (hr : F_76 B = some o) : Rn scr 4 76 [.ref b] (hput h b (Tx.cells b B)) (.inl (some (.int o.1)), hput h b (Tx.cells b o.2), 0, 0) :=
  x_meth (M := am_M76) rfl (show 1 ≤ 2 by decide) (f_76 (Nat.le_refl _) hb hh hr rfl)
def J_78_0_j23 (B : Tx) : Option (Int32 × Tx) :=
  some (0, B)
theorem j_78_0_j23 {d : Nat} (hd : 3 ≤ d) {scr : ASc} {res : ARe} {c n : Nat} {h : AHp} {b : Nat} (hb : b + 8 ≤ am_SB) (hh : b + 8 ≤ h.length) {B : Tx} {o : Int32 × Tx} (hr : J_78_0_j23 B = some o) (kr : res = (.inl (some (.int o.1)), hput h b (Tx.cells b o.2), c, n)) : Ex d am_M78 scr (23, [none, none, none, none], [], (hput h b (Tx.cells b B)), c, n) res := by
  delta J_78_0_j23 at hr
  refine x_b 1 (S2 := (24, [none, none, none, none], [.int 0], (hput h b (Tx.cells b B)), c, n)) rfl ?_
  cases hr
  rw [kr]
  exact x_ret rfl rfl (am_ret_z (by decide))
/-- PebbleProofs$SetupText.readWeight(I)Z -/
def F_78 (B : Tx) (x1 : Int32) : Option (Int32 × Tx) :=
  (F_70 B).bind fun v2 =>
  if v2 = 0 then
    J_78_0_j23 B
  else
    (ix x1 6).bind fun i5 =>
    if ¬ B.value = (B.draft.targets i5) then
      (F_66 B).bind fun B9 =>
      (F_70 B9).bind fun v11 =>
      if ¬ v11 = 0 then
        (F_66 B9).bind fun B14 =>
        (F_69 B14 0 64).bind fun v16 =>
        if ¬ v16 = 0 then
          (F_27 B14.draft x1 B.value B9.value B14.value).bind fun o19 =>
          (some (B14.w_draft o19)).bind fun B20 =>
          (F_66 B20).bind fun B23 =>
          some (1, B23)
        else
          some (0, B14)
      else
        some (0, B9)
    else
      J_78_0_j23 B
theorem f_78 {d : Nat} (hd : 3 ≤ d) {scr : ASc} {res : ARe} {c n : Nat} {h : AHp} {b : Nat} (hb : b + 8 ≤ am_SB) (hh : b + 8 ≤ h.length) {B : Tx} {x1 : Int32} {o : Int32 × Tx} (hr : F_78 B x1 = some o) (kr : res = (.inl (some (.int o.1)), hput h b (Tx.cells b o.2), c, n)) : Ex d am_M78 scr (0, [some (.ref b), some (.int x1), none, none], [], (hput h b (Tx.cells b B)), c, n) res := by
  delta F_78 at hr
  refine x_ldan rfl rfl rfl ((hp_rg (L := Tx.cells b B) hb hh rfl).lt (i := 0) (show 0 < 8 by decide)) ?_
  obtain ⟨v2, h1, hr⟩ := bd_some hr
  refine x_c0 (m_70 (hp_rg (L := Tx.cells b B) hb hh rfl) h1) rfl rfl rfl rfl (am_recv_v ((hp_rg (L := Tx.cells b B) hb hh rfl).lt (i := 0) (show 0 < 8 by decide)) ((hp_rg (L := Tx.cells b B) hb hh rfl).at (i := 0) rfl) rfl) (by omega) ?_
  rcases ite_some hr with ⟨h3, hr⟩ | ⟨h3, hr⟩
  · refine x_zt rfl rfl (decide_eq_true h3) ?_
    refine x_fg (Lq.n (Lq.n (Lq.s (Lq.s Lq.nil)))) ?_
    exact j_78_0_j23 hd hb hh hr kr
  · refine x_zf rfl rfl (decide_eq_false h3) ?_
    refine x_ldan rfl rfl rfl ((hp_rg (L := Tx.cells b B) hb hh rfl).lt (i := 0) (show 0 < 8 by decide)) ?_
    refine x_getf rfl rfl ((hp_rg (L := Tx.cells b B) hb hh rfl).lt (i := 0) (show 0 < 8 by decide)) ((hp_rg (L := Tx.cells b B) hb hh rfl).at (i := 0) rfl) rfl ?_
    refine x_ldan rfl rfl rfl ((hp_rg (L := Tx.cells b B) hb hh rfl).lt (i := 0) (show 0 < 8 by decide)) ?_
    refine x_getf rfl rfl ((hp_rg (L := Tx.cells b B) hb hh rfl).lt (i := 0) (show 0 < 8 by decide)) ((hp_rg (L := Tx.cells b B) hb hh rfl).at (i := 0) rfl) rfl ?_
    refine x_getf rfl rfl ((rg_draft (hp_rg (L := Tx.cells b B) hb hh rfl)).lt (i := 0) (show 0 < 6 by decide)) ((rg_draft (hp_rg (L := Tx.cells b B) hb hh rfl)).at (i := 0) rfl) rfl ?_
    refine x_b 1 (S2 := (19, [some (.ref b), some (.int x1), none, none], [.int x1, .ref (b + 2 + 3), .int B.value], (hput h b (Tx.cells b B)), c, n)) rfl ?_
    obtain ⟨i5, h6, hr⟩ := bd_some hr
    refine x_iald rfl rfl ((rg_draft (hp_rg (L := Tx.cells b B) hb hh rfl)).lt (i := 3) (show 3 < 6 by decide)) ((rg_draft (hp_rg (L := Tx.cells b B) hb hh rfl)).at (i := 3) rfl) h6 ?_
    rcases ite_some hr with ⟨h7, hr⟩ | ⟨h7, hr⟩
    · refine x_ct rfl rfl (decide_eq_true h7) ?_
      refine x_ldan rfl rfl rfl ((hp_rg (L := Tx.cells b B) hb hh rfl).lt (i := 0) (show 0 < 8 by decide)) ?_
      refine x_getf rfl rfl ((hp_rg (L := Tx.cells b B) hb hh rfl).lt (i := 0) (show 0 < 8 by decide)) ((hp_rg (L := Tx.cells b B) hb hh rfl).at (i := 0) rfl) rfl ?_
      refine x_b 1 (S2 := (30, [some (.ref b), some (.int x1), some (.int B.value), none], [], (hput h b (Tx.cells b B)), c, n)) rfl ?_
      refine x_ldan rfl rfl rfl ((hp_rg (L := Tx.cells b B) hb hh rfl).lt (i := 0) (show 0 < 8 by decide)) ?_
      obtain ⟨B9, h8, hr⟩ := bd_some hr
      refine x_c0 (m_66 hb hh h8) rfl rfl rfl rfl (am_recv_v ((hp_rg (L := Tx.cells b B) hb hh rfl).lt (i := 0) (show 0 < 8 by decide)) ((hp_rg (L := Tx.cells b B) hb hh rfl).at (i := 0) rfl) rfl) (by omega) ?_
      refine x_ldan rfl rfl rfl ((hp_rg (L := Tx.cells b B9) hb hh rfl).lt (i := 0) (show 0 < 8 by decide)) ?_
      obtain ⟨v11, h10, hr⟩ := bd_some hr
      refine x_c0 (m_70 (hp_rg (L := Tx.cells b B9) hb hh rfl) h10) rfl rfl rfl rfl (am_recv_v ((hp_rg (L := Tx.cells b B9) hb hh rfl).lt (i := 0) (show 0 < 8 by decide)) ((hp_rg (L := Tx.cells b B9) hb hh rfl).at (i := 0) rfl) rfl) (by omega) ?_
      rcases ite_some hr with ⟨h12, hr⟩ | ⟨h12, hr⟩
      · refine x_zt rfl rfl (decide_eq_true h12) ?_
        refine x_ldan rfl rfl rfl ((hp_rg (L := Tx.cells b B9) hb hh rfl).lt (i := 0) (show 0 < 8 by decide)) ?_
        refine x_getf rfl rfl ((hp_rg (L := Tx.cells b B9) hb hh rfl).lt (i := 0) (show 0 < 8 by decide)) ((hp_rg (L := Tx.cells b B9) hb hh rfl).at (i := 0) rfl) rfl ?_
        refine x_b 1 (S2 := (48, [some (.ref b), some (.int x1), some (.int B.value), some (.int B9.value)], [], (hput h b (Tx.cells b B9)), c, n)) rfl ?_
        refine x_ldan rfl rfl rfl ((hp_rg (L := Tx.cells b B9) hb hh rfl).lt (i := 0) (show 0 < 8 by decide)) ?_
        obtain ⟨B14, h13, hr⟩ := bd_some hr
        refine x_c0 (m_66 hb hh h13) rfl rfl rfl rfl (am_recv_v ((hp_rg (L := Tx.cells b B9) hb hh rfl).lt (i := 0) (show 0 < 8 by decide)) ((hp_rg (L := Tx.cells b B9) hb hh rfl).at (i := 0) rfl) rfl) (by omega) ?_
        refine x_ldan rfl rfl rfl ((hp_rg (L := Tx.cells b B14) hb hh rfl).lt (i := 0) (show 0 < 8 by decide)) ?_
        refine x_b 2 (S2 := (56, [some (.ref b), some (.int x1), some (.int B.value), some (.int B9.value)], [.int 64, .int 0, .ref b], (hput h b (Tx.cells b B14)), c, n)) rfl ?_
        obtain ⟨v16, h15, hr⟩ := bd_some hr
        refine x_c0 (m_69 (hp_rg (L := Tx.cells b B14) hb hh rfl) h15) rfl rfl rfl rfl (am_recv_v ((hp_rg (L := Tx.cells b B14) hb hh rfl).lt (i := 0) (show 0 < 8 by decide)) ((hp_rg (L := Tx.cells b B14) hb hh rfl).at (i := 0) rfl) rfl) (by omega) ?_
        rcases ite_some hr with ⟨h17, hr⟩ | ⟨h17, hr⟩
        · refine x_zt rfl rfl (decide_eq_true h17) ?_
          refine x_ldan rfl rfl rfl ((hp_rg (L := Tx.cells b B14) hb hh rfl).lt (i := 0) (show 0 < 8 by decide)) ?_
          refine x_getf rfl rfl ((hp_rg (L := Tx.cells b B14) hb hh rfl).lt (i := 0) (show 0 < 8 by decide)) ((hp_rg (L := Tx.cells b B14) hb hh rfl).at (i := 0) rfl) rfl ?_
          refine x_b 3 (S2 := (71, [some (.ref b), some (.int x1), some (.int B.value), some (.int B9.value)], [.int B9.value, .int B.value, .int x1, .ref (b + 2)], (hput h b (Tx.cells b B14)), c, n)) rfl ?_
          refine x_ldan rfl rfl rfl ((hp_rg (L := Tx.cells b B14) hb hh rfl).lt (i := 0) (show 0 < 8 by decide)) ?_
          refine x_getf rfl rfl ((hp_rg (L := Tx.cells b B14) hb hh rfl).lt (i := 0) (show 0 < 8 by decide)) ((hp_rg (L := Tx.cells b B14) hb hh rfl).at (i := 0) rfl) rfl ?_
          obtain ⟨o19, h18, hr⟩ := bd_some hr
          obtain ⟨B20, h21, hr⟩ := bd_some hr
          refine x_c0 (wc_draft hb hh (fun H hb hh => m_27 hb hh h18) h21) rfl rfl rfl rfl (am_recv_v ((rg_draft (hp_rg (L := Tx.cells b B14) hb hh rfl)).lt (i := 0) (show 0 < 6 by decide)) ((rg_draft (hp_rg (L := Tx.cells b B14) hb hh rfl)).at (i := 0) rfl) rfl) (by omega) ?_
          refine x_ldan rfl rfl rfl ((hp_rg (L := Tx.cells b B20) hb hh rfl).lt (i := 0) (show 0 < 8 by decide)) ?_
          obtain ⟨B23, h22, hr⟩ := bd_some hr
          refine x_c0 (m_66 hb hh h22) rfl rfl rfl rfl (am_recv_v ((hp_rg (L := Tx.cells b B20) hb hh rfl).lt (i := 0) (show 0 < 8 by decide)) ((hp_rg (L := Tx.cells b B20) hb hh rfl).at (i := 0) rfl) rfl) (by omega) ?_
          refine x_b 1 (S2 := (83, [some (.ref b), some (.int x1), some (.int B.value), some (.int B9.value)], [.int 1], (hput h b (Tx.cells b B23)), c, n)) rfl ?_
          cases hr
          rw [kr]
          exact x_ret rfl rfl (am_ret_z (by decide))
        · refine x_zf rfl rfl (decide_eq_false h17) ?_
          refine x_b 1 (S2 := (63, [some (.ref b), some (.int x1), some (.int B.value), some (.int B9.value)], [.int 0], (hput h b (Tx.cells b B14)), c, n)) rfl ?_
          cases hr
          rw [kr]
          exact x_ret rfl rfl (am_ret_z (by decide))
      · refine x_zf rfl rfl (decide_eq_false h12) ?_
        refine x_b 1 (S2 := (42, [some (.ref b), some (.int x1), some (.int B.value), none], [.int 0], (hput h b (Tx.cells b B9)), c, n)) rfl ?_
        cases hr
        rw [kr]
        exact x_ret rfl rfl (am_ret_z (by decide))
    · refine x_cf rfl rfl (decide_eq_false h7) ?_
      refine x_fg (Lq.n (Lq.n (Lq.s (Lq.s Lq.nil)))) ?_
      exact j_78_0_j23 hd hb hh hr kr
theorem m_78 {scr : ASc} {h : AHp} {b : Nat} (hb : b + 8 ≤ am_SB) (hh : b + 8 ≤ h.length) {B : Tx} {x1 : Int32} {o : Int32 × Tx} (hr : F_78 B x1 = some o) : Rn scr 4 78 [.ref b, .int x1] (hput h b (Tx.cells b B)) (.inl (some (.int o.1)), hput h b (Tx.cells b o.2), 0, 0) :=
  x_meth (M := am_M78) rfl (show 2 ≤ 4 by decide) (f_78 (Nat.le_refl _) hb hh hr rfl)
abbrev P_77_44 (h : AHp) (b : Nat) (c n : Nat)  (s : Int32 × Tx) : ASt := (44, [some (.ref b), some (.int s.1)], [], (hput h b (Tx.cells b s.2)), c, n)
abbrev PX_77_44 (h : AHp) (b : Nat) (c n : Nat)  (s : Tx) : ASt := (83, [none, none], [], (hput h b (Tx.cells b s)), c, n)
def G_77_44  (s : Int32 × Tx) : Option ((Int32 × Tx) ⊕ (Tx) ⊕ (Int32 × Tx)) := 
  match s with
  | (x1, B) =>
    if 400 ≤ x1 then
      some (.inr (.inl B))
    else
      if ¬ B.kind = 2 then
        some (.inr (.inl B))
      else
        (F_78 B (B.draft.strategyCount - 1)).bind fun (v16, B17) =>
        if ¬ v16 = 0 then
          some (.inl ((x1 + 1), B17))
        else
          some (.inr (.inr (0, B17)))
theorem g_77_44 {d : Nat} (hd : 4 ≤ d) {scr : ASc} {res : ARe} {c n : Nat} {h : AHp} {b : Nat} (hb : b + 8 ≤ am_SB) (hh : b + 8 ≤ h.length)  {s : Int32 × Tx} {o : (Int32 × Tx) ⊕ (Tx) ⊕ (Int32 × Tx)} (hr : G_77_44  s = some o) (ka : ∀ s, o = .inl s → Ex d am_M77 scr (P_77_44 h b c n  s) res) (kx : ∀ s, o = .inr (.inl s) → Ex d am_M77 scr (PX_77_44 h b c n  s) res) (kr : ∀ r, o = .inr (.inr r) → res = (.inl (some (.int r.1)), hput h b (Tx.cells b r.2), c, n)) : Ex d am_M77 scr (P_77_44 h b c n  s) res := by
  obtain ⟨x1, B⟩ := s
  delta G_77_44 at hr
  show Ex d am_M77 scr (44, [some (.ref b), some (.int x1)], [], (hput h b (Tx.cells b B)), c, n) res
  refine x_b 2 (S2 := (48, [some (.ref b), some (.int x1)], [.int 400, .int x1], (hput h b (Tx.cells b B)), c, n)) rfl ?_
  rcases ite_some hr with ⟨h13, hr⟩ | ⟨h13, hr⟩
  · refine x_ct rfl rfl (decide_eq_true h13) ?_
    refine x_fg (Lq.n (Lq.n Lq.nil)) ?_
    exact kx B (Option.some.inj hr).symm
  · refine x_cf rfl rfl (decide_eq_false h13) ?_
    refine x_ldan rfl rfl rfl ((hp_rg (L := Tx.cells b B) hb hh rfl).lt (i := 0) (show 0 < 8 by decide)) ?_
    refine x_getf rfl rfl ((hp_rg (L := Tx.cells b B) hb hh rfl).lt (i := 0) (show 0 < 8 by decide)) ((hp_rg (L := Tx.cells b B) hb hh rfl).at (i := 0) rfl) rfl ?_
    refine x_b 1 (S2 := (56, [some (.ref b), some (.int x1)], [.int 2, .int B.kind], (hput h b (Tx.cells b B)), c, n)) rfl ?_
    rcases ite_some hr with ⟨h14, hr⟩ | ⟨h14, hr⟩
    · refine x_ct rfl rfl (decide_eq_true h14) ?_
      refine x_fg (Lq.n (Lq.n Lq.nil)) ?_
      exact kx B (Option.some.inj hr).symm
    · refine x_cf rfl rfl (decide_eq_false h14) ?_
      refine x_ldan rfl rfl rfl ((hp_rg (L := Tx.cells b B) hb hh rfl).lt (i := 0) (show 0 < 8 by decide)) ?_
      refine x_ldan rfl rfl rfl ((hp_rg (L := Tx.cells b B) hb hh rfl).lt (i := 0) (show 0 < 8 by decide)) ?_
      refine x_getf rfl rfl ((hp_rg (L := Tx.cells b B) hb hh rfl).lt (i := 0) (show 0 < 8 by decide)) ((hp_rg (L := Tx.cells b B) hb hh rfl).at (i := 0) rfl) rfl ?_
      refine x_getf rfl rfl ((rg_draft (hp_rg (L := Tx.cells b B) hb hh rfl)).lt (i := 0) (show 0 < 6 by decide)) ((rg_draft (hp_rg (L := Tx.cells b B) hb hh rfl)).at (i := 0) rfl) rfl ?_
      refine x_b 2 (S2 := (69, [some (.ref b), some (.int x1)], [.int (B.draft.strategyCount - 1), .ref b], (hput h b (Tx.cells b B)), c, n)) rfl ?_
      obtain ⟨⟨v16, B17⟩, h15, hr⟩ := bd_some hr
      refine x_c0 (m_78 hb hh h15) rfl rfl rfl rfl (am_recv_v ((hp_rg (L := Tx.cells b B) hb hh rfl).lt (i := 0) (show 0 < 8 by decide)) ((hp_rg (L := Tx.cells b B) hb hh rfl).at (i := 0) rfl) rfl) (by omega) ?_
      rcases ite_some hr with ⟨h18, hr⟩ | ⟨h18, hr⟩
      · refine x_zt rfl rfl (decide_eq_true h18) ?_
        refine x_b 2 (S2 := (44, [some (.ref b), some (.int (x1 + 1))], [], (hput h b (Tx.cells b B17)), c, n)) rfl ?_
        refine x_fg (Lq.s (Lq.s Lq.nil)) ?_
        exact ka ((x1 + 1), B17) (Option.some.inj hr).symm
      · refine x_zf rfl rfl (decide_eq_false h18) ?_
        refine x_b 1 (S2 := (76, [some (.ref b), some (.int x1)], [.int 0], (hput h b (Tx.cells b B17)), c, n)) rfl ?_
        rw [kr _ (Option.some.inj hr).symm]
        exact x_ret rfl rfl (am_ret_z (by decide))
def J_77_0_j83 (B : Tx) : Option (Int32 × Tx) :=
  some (1, B)
theorem j_77_0_j83 {d : Nat} (hd : 4 ≤ d) {scr : ASc} {res : ARe} {c n : Nat} {h : AHp} {b : Nat} (hb : b + 8 ≤ am_SB) (hh : b + 8 ≤ h.length) {B : Tx} {o : Int32 × Tx} (hr : J_77_0_j83 B = some o) (kr : res = (.inl (some (.int o.1)), hput h b (Tx.cells b o.2), c, n)) : Ex d am_M77 scr (83, [none, none], [], (hput h b (Tx.cells b B)), c, n) res := by
  delta J_77_0_j83 at hr
  refine x_b 1 (S2 := (84, [none, none], [.int 1], (hput h b (Tx.cells b B)), c, n)) rfl ?_
  cases hr
  rw [kr]
  exact x_ret rfl rfl (am_ret_z (by decide))
/-- PebbleProofs$SetupText.readStrategy()Z -/
def F_77 (B : Tx) : Option (Int32 × Tx) :=
  if B.draft.strategyCount < 6 then
    (F_66 B).bind fun B3 =>
    (F_70 B3).bind fun v5 =>
    if ¬ v5 = 0 then
      (F_25 B3.draft B3.value).bind fun o8 =>
      (some (B3.w_draft o8)).bind fun B9 =>
      (F_66 B9).bind fun B12 =>
      (lw (G_77_44 ) 200000 (0, B12)).bind fun r =>
        match r with
        | .inr r24 => some r24
        | .inl B21 =>
          J_77_0_j83 B21
    else
      some (0, B3)
  else
    some (0, B)
theorem f_77 {d : Nat} (hd : 4 ≤ d) {scr : ASc} {res : ARe} {c n : Nat} {h : AHp} {b : Nat} (hb : b + 8 ≤ am_SB) (hh : b + 8 ≤ h.length) {B : Tx} {o : Int32 × Tx} (hr : F_77 B = some o) (kr : res = (.inl (some (.int o.1)), hput h b (Tx.cells b o.2), c, n)) : Ex d am_M77 scr (0, [some (.ref b), none], [], (hput h b (Tx.cells b B)), c, n) res := by
  delta F_77 at hr
  refine x_ldan rfl rfl rfl ((hp_rg (L := Tx.cells b B) hb hh rfl).lt (i := 0) (show 0 < 8 by decide)) ?_
  refine x_getf rfl rfl ((hp_rg (L := Tx.cells b B) hb hh rfl).lt (i := 0) (show 0 < 8 by decide)) ((hp_rg (L := Tx.cells b B) hb hh rfl).at (i := 0) rfl) rfl ?_
  refine x_getf rfl rfl ((rg_draft (hp_rg (L := Tx.cells b B) hb hh rfl)).lt (i := 0) (show 0 < 6 by decide)) ((rg_draft (hp_rg (L := Tx.cells b B) hb hh rfl)).at (i := 0) rfl) rfl ?_
  refine x_b 1 (S2 := (9, [some (.ref b), none], [.int 6, .int B.draft.strategyCount], (hput h b (Tx.cells b B)), c, n)) rfl ?_
  rcases ite_some hr with ⟨h1, hr⟩ | ⟨h1, hr⟩
  · refine x_ct rfl rfl (decide_eq_true h1) ?_
    refine x_ldan rfl rfl rfl ((hp_rg (L := Tx.cells b B) hb hh rfl).lt (i := 0) (show 0 < 8 by decide)) ?_
    obtain ⟨B3, h2, hr⟩ := bd_some hr
    refine x_c0 (m_66 hb hh h2) rfl rfl rfl rfl (am_recv_v ((hp_rg (L := Tx.cells b B) hb hh rfl).lt (i := 0) (show 0 < 8 by decide)) ((hp_rg (L := Tx.cells b B) hb hh rfl).at (i := 0) rfl) rfl) (by omega) ?_
    refine x_ldan rfl rfl rfl ((hp_rg (L := Tx.cells b B3) hb hh rfl).lt (i := 0) (show 0 < 8 by decide)) ?_
    obtain ⟨v5, h4, hr⟩ := bd_some hr
    refine x_c0 (m_70 (hp_rg (L := Tx.cells b B3) hb hh rfl) h4) rfl rfl rfl rfl (am_recv_v ((hp_rg (L := Tx.cells b B3) hb hh rfl).lt (i := 0) (show 0 < 8 by decide)) ((hp_rg (L := Tx.cells b B3) hb hh rfl).at (i := 0) rfl) rfl) (by omega) ?_
    rcases ite_some hr with ⟨h6, hr⟩ | ⟨h6, hr⟩
    · refine x_zt rfl rfl (decide_eq_true h6) ?_
      refine x_ldan rfl rfl rfl ((hp_rg (L := Tx.cells b B3) hb hh rfl).lt (i := 0) (show 0 < 8 by decide)) ?_
      refine x_getf rfl rfl ((hp_rg (L := Tx.cells b B3) hb hh rfl).lt (i := 0) (show 0 < 8 by decide)) ((hp_rg (L := Tx.cells b B3) hb hh rfl).at (i := 0) rfl) rfl ?_
      refine x_ldan rfl rfl rfl ((hp_rg (L := Tx.cells b B3) hb hh rfl).lt (i := 0) (show 0 < 8 by decide)) ?_
      refine x_getf rfl rfl ((hp_rg (L := Tx.cells b B3) hb hh rfl).lt (i := 0) (show 0 < 8 by decide)) ((hp_rg (L := Tx.cells b B3) hb hh rfl).at (i := 0) rfl) rfl ?_
      obtain ⟨o8, h7, hr⟩ := bd_some hr
      obtain ⟨B9, h10, hr⟩ := bd_some hr
      refine x_c0 (wc_draft hb hh (fun H hb hh => m_25 hb hh h7) h10) rfl rfl rfl rfl (am_recv_v ((rg_draft (hp_rg (L := Tx.cells b B3) hb hh rfl)).lt (i := 0) (show 0 < 6 by decide)) ((rg_draft (hp_rg (L := Tx.cells b B3) hb hh rfl)).at (i := 0) rfl) rfl) (by omega) ?_
      refine x_ldan rfl rfl rfl ((hp_rg (L := Tx.cells b B9) hb hh rfl).lt (i := 0) (show 0 < 8 by decide)) ?_
      obtain ⟨B12, h11, hr⟩ := bd_some hr
      refine x_c0 (m_66 hb hh h11) rfl rfl rfl rfl (am_recv_v ((hp_rg (L := Tx.cells b B9) hb hh rfl).lt (i := 0) (show 0 < 8 by decide)) ((hp_rg (L := Tx.cells b B9) hb hh rfl).at (i := 0) rfl) rfl) (by omega) ?_
      refine x_b 2 (S2 := (44, [some (.ref b), some (.int 0)], [], (hput h b (Tx.cells b B12)), c, n)) rfl ?_
      refine x_fg (Lq.s (Lq.s Lq.nil)) ?_
      obtain ⟨o22, h20, hr⟩ := bd_some hr
      refine x_lw (P := P_77_44 h b c n ) (Q := fun x => match x with | .inl e => Ex d am_M77 scr (PX_77_44 h b c n  e) res | .inr r => res = (.inl (some (.int r.1)), hput h b (Tx.cells b r.2), c, n)) (fun s o h1 ka kx => g_77_44 hd hb hh h1 ka (fun e he => kx (.inl e) he) (fun r he => kx (.inr r) he)) _ (0, B12) _ h20 ?_
      rcases o22 with B21 | r24
      · show Ex d am_M77 scr (83, [none, none], [], (hput h b (Tx.cells b B21)), c, n) res
        refine x_fg (Lq.s (Lq.s Lq.nil)) ?_
        exact j_77_0_j83 hd hb hh hr kr
      · cases hr; exact kr
    · refine x_zf rfl rfl (decide_eq_false h6) ?_
      refine x_b 1 (S2 := (26, [some (.ref b), none], [.int 0], (hput h b (Tx.cells b B3)), c, n)) rfl ?_
      cases hr
      rw [kr]
      exact x_ret rfl rfl (am_ret_z (by decide))
  · refine x_cf rfl rfl (decide_eq_false h1) ?_
    refine x_b 1 (S2 := (13, [some (.ref b), none], [.int 0], (hput h b (Tx.cells b B)), c, n)) rfl ?_
    cases hr
    rw [kr]
    exact x_ret rfl rfl (am_ret_z (by decide))
theorem m_77 {scr : ASc} {h : AHp} {b : Nat} (hb : b + 8 ≤ am_SB) (hh : b + 8 ≤ h.length) {B : Tx} {o : Int32 × Tx} (hr : F_77 B = some o) : Rn scr 5 77 [.ref b] (hput h b (Tx.cells b B)) (.inl (some (.int o.1)), hput h b (Tx.cells b o.2), 0, 0) :=
  x_meth (M := am_M77) rfl (show 1 ≤ 2 by decide) (f_77 (Nat.le_refl _) hb hh hr rfl)
def J_74_0_j49 (B : Tx) (t0 : Int32) : Option (Int32 × Tx) :=
  if t0 = 0 ∨ t0 = 1 then some (t0, B) else none
theorem j_74_0_j49 {d : Nat} (hd : 7 ≤ d) {scr : ASc} {res : ARe} {c n : Nat} {h : AHp} {b : Nat} (hb : b + 8 ≤ am_SB) (hh : b + 8 ≤ h.length) {B : Tx} {t0 : Int32} {o : Int32 × Tx} (hr : J_74_0_j49 B t0 = some o) (kr : res = (.inl (some (.int o.1)), hput h b (Tx.cells b o.2), c, n)) : Ex d am_M74 scr (49, [none], [.int t0], (hput h b (Tx.cells b B)), c, n) res := by
  delta J_74_0_j49 at hr
  obtain ⟨h10, hr⟩ := itn_some hr
  cases hr
  rw [kr]
  exact x_ret rfl rfl (am_ret_z h10)
def J_74_0_j48 (B : Tx) : Option (Int32 × Tx) :=
  J_74_0_j49 B 0
theorem j_74_0_j48 {d : Nat} (hd : 7 ≤ d) {scr : ASc} {res : ARe} {c n : Nat} {h : AHp} {b : Nat} (hb : b + 8 ≤ am_SB) (hh : b + 8 ≤ h.length) {B : Tx} {o : Int32 × Tx} (hr : J_74_0_j48 B = some o) (kr : res = (.inl (some (.int o.1)), hput h b (Tx.cells b o.2), c, n)) : Ex d am_M74 scr (48, [none], [], (hput h b (Tx.cells b B)), c, n) res := by
  delta J_74_0_j48 at hr
  refine x_b 1 (S2 := (49, [none], [.int 0], (hput h b (Tx.cells b B)), c, n)) rfl ?_
  refine x_fg (Lq.s Lq.nil) ?_
  exact j_74_0_j49 hd hb hh hr kr
/-- PebbleProofs$SetupText.readStatement()Z -/
def F_74 (B : Tx) : Option (Int32 × Tx) :=
  (F_68 1 B).bind fun v2 =>
  if v2 = 0 then
    (F_68 2 B).bind fun v5 =>
    if v5 = 0 then
      (F_68 3 B).bind fun v8 =>
      if v8 = 0 then
        J_74_0_j48 B
      else
        (F_77 B).bind fun (v12, B13) =>
        if v12 = 0 then
          J_74_0_j48 B13
        else
          J_74_0_j49 B13 1
    else
      (F_76 B).bind fun (v16, B17) =>
      if v16 = 0 ∨ v16 = 1 then some (v16, B17) else none
  else
    (F_75 B).bind fun (v20, B21) =>
    if v20 = 0 ∨ v20 = 1 then some (v20, B21) else none
theorem f_74 {d : Nat} (hd : 7 ≤ d) {scr : ASc} {res : ARe} {c n : Nat} {h : AHp} {b : Nat} (hb : b + 8 ≤ am_SB) (hh : b + 8 ≤ h.length) {B : Tx} {o : Int32 × Tx} (hr : F_74 B = some o) (kr : res = (.inl (some (.int o.1)), hput h b (Tx.cells b o.2), c, n)) : Ex d am_M74 scr (0, [some (.ref b)], [], (hput h b (Tx.cells b B)), c, n) res := by
  delta F_74 at hr
  refine x_ldan rfl rfl rfl ((hp_rg (L := Tx.cells b B) hb hh rfl).lt (i := 0) (show 0 < 8 by decide)) ?_
  refine x_b 1 (S2 := (3, [some (.ref b)], [.ref (am_SB + 10 + 2 * 1), .ref b], (hput h b (Tx.cells b B)), c, n)) rfl ?_
  obtain ⟨v2, h1, hr⟩ := bd_some hr
  refine x_c0 (m_68 (by decide) (hp_rg (L := Tx.cells b B) hb hh rfl) h1) rfl rfl rfl rfl (am_recv_v ((hp_rg (L := Tx.cells b B) hb hh rfl).lt (i := 0) (show 0 < 8 by decide)) ((hp_rg (L := Tx.cells b B) hb hh rfl).at (i := 0) rfl) rfl) (by omega) ?_
  rcases ite_some hr with ⟨h3, hr⟩ | ⟨h3, hr⟩
  · refine x_zt rfl rfl (decide_eq_true h3) ?_
    refine x_ldan rfl rfl rfl ((hp_rg (L := Tx.cells b B) hb hh rfl).lt (i := 0) (show 0 < 8 by decide)) ?_
    refine x_b 1 (S2 := (17, [some (.ref b)], [.ref (am_SB + 10 + 2 * 2), .ref b], (hput h b (Tx.cells b B)), c, n)) rfl ?_
    obtain ⟨v5, h4, hr⟩ := bd_some hr
    refine x_c0 (m_68 (by decide) (hp_rg (L := Tx.cells b B) hb hh rfl) h4) rfl rfl rfl rfl (am_recv_v ((hp_rg (L := Tx.cells b B) hb hh rfl).lt (i := 0) (show 0 < 8 by decide)) ((hp_rg (L := Tx.cells b B) hb hh rfl).at (i := 0) rfl) rfl) (by omega) ?_
    rcases ite_some hr with ⟨h6, hr⟩ | ⟨h6, hr⟩
    · refine x_zt rfl rfl (decide_eq_true h6) ?_
      refine x_ldan rfl rfl rfl ((hp_rg (L := Tx.cells b B) hb hh rfl).lt (i := 0) (show 0 < 8 by decide)) ?_
      refine x_b 1 (S2 := (31, [some (.ref b)], [.ref (am_SB + 10 + 2 * 3), .ref b], (hput h b (Tx.cells b B)), c, n)) rfl ?_
      obtain ⟨v8, h7, hr⟩ := bd_some hr
      refine x_c0 (m_68 (by decide) (hp_rg (L := Tx.cells b B) hb hh rfl) h7) rfl rfl rfl rfl (am_recv_v ((hp_rg (L := Tx.cells b B) hb hh rfl).lt (i := 0) (show 0 < 8 by decide)) ((hp_rg (L := Tx.cells b B) hb hh rfl).at (i := 0) rfl) rfl) (by omega) ?_
      rcases ite_some hr with ⟨h9, hr⟩ | ⟨h9, hr⟩
      · refine x_zt rfl rfl (decide_eq_true h9) ?_
        refine x_fg (Lq.n Lq.nil) ?_
        exact j_74_0_j48 hd hb hh hr kr
      · refine x_zf rfl rfl (decide_eq_false h9) ?_
        refine x_ldan rfl rfl rfl ((hp_rg (L := Tx.cells b B) hb hh rfl).lt (i := 0) (show 0 < 8 by decide)) ?_
        obtain ⟨⟨v12, B13⟩, h11, hr⟩ := bd_some hr
        refine x_c0 (m_77 hb hh h11) rfl rfl rfl rfl (am_recv_v ((hp_rg (L := Tx.cells b B) hb hh rfl).lt (i := 0) (show 0 < 8 by decide)) ((hp_rg (L := Tx.cells b B) hb hh rfl).at (i := 0) rfl) rfl) (by omega) ?_
        rcases ite_some hr with ⟨h14, hr⟩ | ⟨h14, hr⟩
        · refine x_zt rfl rfl (decide_eq_true h14) ?_
          refine x_fg (Lq.n Lq.nil) ?_
          exact j_74_0_j48 hd hb hh hr kr
        · refine x_zf rfl rfl (decide_eq_false h14) ?_
          refine x_b 2 (S2 := (49, [some (.ref b)], [.int 1], (hput h b (Tx.cells b B13)), c, n)) rfl ?_
          refine x_fg (Lq.n Lq.nil) ?_
          exact j_74_0_j49 hd hb hh hr kr
    · refine x_zf rfl rfl (decide_eq_false h6) ?_
      refine x_ldan rfl rfl rfl ((hp_rg (L := Tx.cells b B) hb hh rfl).lt (i := 0) (show 0 < 8 by decide)) ?_
      obtain ⟨⟨v16, B17⟩, h15, hr⟩ := bd_some hr
      refine x_c0 (m_76 hb hh h15) rfl rfl rfl rfl (am_recv_v ((hp_rg (L := Tx.cells b B) hb hh rfl).lt (i := 0) (show 0 < 8 by decide)) ((hp_rg (L := Tx.cells b B) hb hh rfl).at (i := 0) rfl) rfl) (by omega) ?_
      obtain ⟨h18, hr⟩ := itn_some hr
      cases hr
      rw [kr]
      exact x_ret rfl rfl (am_ret_z h18)
  · refine x_zf rfl rfl (decide_eq_false h3) ?_
    refine x_ldan rfl rfl rfl ((hp_rg (L := Tx.cells b B) hb hh rfl).lt (i := 0) (show 0 < 8 by decide)) ?_
    obtain ⟨⟨v20, B21⟩, h19, hr⟩ := bd_some hr
    refine x_c0 (m_75 hb hh h19) rfl rfl rfl rfl (am_recv_v ((hp_rg (L := Tx.cells b B) hb hh rfl).lt (i := 0) (show 0 < 8 by decide)) ((hp_rg (L := Tx.cells b B) hb hh rfl).at (i := 0) rfl) rfl) (by omega) ?_
    obtain ⟨h22, hr⟩ := itn_some hr
    cases hr
    rw [kr]
    exact x_ret rfl rfl (am_ret_z h22)
theorem m_74 {scr : ASc} {h : AHp} {b : Nat} (hb : b + 8 ≤ am_SB) (hh : b + 8 ≤ h.length) {B : Tx} {o : Int32 × Tx} (hr : F_74 B = some o) : Rn scr 8 74 [.ref b] (hput h b (Tx.cells b B)) (.inl (some (.int o.1)), hput h b (Tx.cells b o.2), 0, 0) :=
  x_meth (M := am_M74) rfl (show 1 ≤ 1 by decide) (f_74 (Nat.le_refl _) hb hh hr rfl)
abbrev P_72_16 (h : AHp) (b : Nat) (c n : Nat)  (s : Int32 × Int32 × Tx) : ASt := (16, [some (.ref b), some (.int s.1), some (.int s.2.1)], [], (hput h b (Tx.cells b s.2.2)), c, n)
abbrev PX_72_16 (h : AHp) (b : Nat) (c n : Nat)  (s : Int32 × Tx) : ASt := (49, [some (.ref b), some (.int s.1), none], [], (hput h b (Tx.cells b s.2)), c, n)
def G_72_16  (s : Int32 × Int32 × Tx) : Option ((Int32 × Int32 × Tx) ⊕ (Int32 × Tx)) := 
  match s with
  | (x1, x2, B) =>
    if 400 ≤ x2 then
      some (.inr (x1, B))
    else
      if x1 = 0 then
        some (.inr (x1, B))
      else
        (F_71 B).bind fun v11 =>
        if v11 = 0 then
          some (.inr (x1, B))
        else
          (F_66 B).bind fun B14 =>
          (F_74 B14).bind fun (v16, B17) =>
          some (.inl (v16, (x2 + 1), B17))
theorem g_72_16 {d : Nat} (hd : 8 ≤ d) {scr : ASc} {res : ARe} {c n : Nat} {h : AHp} {b : Nat} (hb : b + 8 ≤ am_SB) (hh : b + 8 ≤ h.length)  {s : Int32 × Int32 × Tx} {o : (Int32 × Int32 × Tx) ⊕ (Int32 × Tx)} (hr : G_72_16  s = some o) (ka : ∀ s, o = .inl s → Ex d am_M72 scr (P_72_16 h b c n  s) res) (kx : ∀ s, o = .inr s → Ex d am_M72 scr (PX_72_16 h b c n  s) res) : Ex d am_M72 scr (P_72_16 h b c n  s) res := by
  obtain ⟨x1, x2, B⟩ := s
  delta G_72_16 at hr
  show Ex d am_M72 scr (16, [some (.ref b), some (.int x1), some (.int x2)], [], (hput h b (Tx.cells b B)), c, n) res
  refine x_b 2 (S2 := (20, [some (.ref b), some (.int x1), some (.int x2)], [.int 400, .int x2], (hput h b (Tx.cells b B)), c, n)) rfl ?_
  rcases ite_some hr with ⟨h8, hr⟩ | ⟨h8, hr⟩
  · refine x_ct rfl rfl (decide_eq_true h8) ?_
    refine x_fg (Lq.s (Lq.s (Lq.n Lq.nil))) ?_
    exact kx (x1, B) (Option.some.inj hr).symm
  · refine x_cf rfl rfl (decide_eq_false h8) ?_
    refine x_b 1 (S2 := (24, [some (.ref b), some (.int x1), some (.int x2)], [.int x1], (hput h b (Tx.cells b B)), c, n)) rfl ?_
    rcases ite_some hr with ⟨h9, hr⟩ | ⟨h9, hr⟩
    · refine x_zt rfl rfl (decide_eq_true h9) ?_
      refine x_fg (Lq.s (Lq.s (Lq.n Lq.nil))) ?_
      exact kx (x1, B) (Option.some.inj hr).symm
    · refine x_zf rfl rfl (decide_eq_false h9) ?_
      refine x_ldan rfl rfl rfl ((hp_rg (L := Tx.cells b B) hb hh rfl).lt (i := 0) (show 0 < 8 by decide)) ?_
      obtain ⟨v11, h10, hr⟩ := bd_some hr
      refine x_c0 (m_71 (hp_rg (L := Tx.cells b B) hb hh rfl) h10) rfl rfl rfl rfl (am_recv_v ((hp_rg (L := Tx.cells b B) hb hh rfl).lt (i := 0) (show 0 < 8 by decide)) ((hp_rg (L := Tx.cells b B) hb hh rfl).at (i := 0) rfl) rfl) (by omega) ?_
      rcases ite_some hr with ⟨h12, hr⟩ | ⟨h12, hr⟩
      · refine x_zt rfl rfl (decide_eq_true h12) ?_
        refine x_fg (Lq.s (Lq.s (Lq.n Lq.nil))) ?_
        exact kx (x1, B) (Option.some.inj hr).symm
      · refine x_zf rfl rfl (decide_eq_false h12) ?_
        refine x_ldan rfl rfl rfl ((hp_rg (L := Tx.cells b B) hb hh rfl).lt (i := 0) (show 0 < 8 by decide)) ?_
        obtain ⟨B14, h13, hr⟩ := bd_some hr
        refine x_c0 (m_66 hb hh h13) rfl rfl rfl rfl (am_recv_v ((hp_rg (L := Tx.cells b B) hb hh rfl).lt (i := 0) (show 0 < 8 by decide)) ((hp_rg (L := Tx.cells b B) hb hh rfl).at (i := 0) rfl) rfl) (by omega) ?_
        refine x_ldan rfl rfl rfl ((hp_rg (L := Tx.cells b B14) hb hh rfl).lt (i := 0) (show 0 < 8 by decide)) ?_
        obtain ⟨⟨v16, B17⟩, h15, hr⟩ := bd_some hr
        refine x_c0 (m_74 hb hh h15) rfl rfl rfl rfl (am_recv_v ((hp_rg (L := Tx.cells b B14) hb hh rfl).lt (i := 0) (show 0 < 8 by decide)) ((hp_rg (L := Tx.cells b B14) hb hh rfl).at (i := 0) rfl) rfl) (by omega) ?_
        refine x_b 3 (S2 := (16, [some (.ref b), some (.int v16), some (.int (x2 + 1))], [], (hput h b (Tx.cells b B17)), c, n)) rfl ?_
        refine x_fg (Lq.s (Lq.s (Lq.s Lq.nil))) ?_
        exact ka (v16, (x2 + 1), B17) (Option.some.inj hr).symm
def J_72_0_j78 (B : Tx) (t0 : Int32) : Option (Int32 × Tx) :=
  some (t0, B)
theorem j_72_0_j78 {d : Nat} (hd : 8 ≤ d) {scr : ASc} {res : ARe} {c n : Nat} {h : AHp} {b : Nat} (hb : b + 8 ≤ am_SB) (hh : b + 8 ≤ h.length) {B : Tx} {t0 : Int32} {o : Int32 × Tx} (hr : J_72_0_j78 B t0 = some o) (kr : res = (.inl (some (.int o.1)), hput h b (Tx.cells b o.2), c, n)) : Ex d am_M72 scr (78, [none, none, none], [.int t0], (hput h b (Tx.cells b B)), c, n) res := by
  delta J_72_0_j78 at hr
  cases hr
  rw [kr]
  exact x_ret rfl rfl am_ret_i
def J_72_0_j74 (B : Tx) : Option (Int32 × Tx) :=
  J_72_0_j78 B B.start
theorem j_72_0_j74 {d : Nat} (hd : 8 ≤ d) {scr : ASc} {res : ARe} {c n : Nat} {h : AHp} {b : Nat} (hb : b + 8 ≤ am_SB) (hh : b + 8 ≤ h.length) {B : Tx} {o : Int32 × Tx} (hr : J_72_0_j74 B = some o) (kr : res = (.inl (some (.int o.1)), hput h b (Tx.cells b o.2), c, n)) : Ex d am_M72 scr (74, [some (.ref b), none, none], [], (hput h b (Tx.cells b B)), c, n) res := by
  delta J_72_0_j74 at hr
  refine x_ldan rfl rfl rfl ((hp_rg (L := Tx.cells b B) hb hh rfl).lt (i := 0) (show 0 < 8 by decide)) ?_
  refine x_getf rfl rfl ((hp_rg (L := Tx.cells b B) hb hh rfl).lt (i := 0) (show 0 < 8 by decide)) ((hp_rg (L := Tx.cells b B) hb hh rfl).at (i := 0) rfl) rfl ?_
  refine x_fg (Lq.n (Lq.s (Lq.s Lq.nil))) ?_
  exact j_72_0_j78 hd hb hh hr kr
def J_72_0_j49 (B : Tx) (x1 : Int32) : Option (Int32 × Tx) :=
  if x1 = 0 then
    J_72_0_j74 B
  else
    if ¬ B.kind = 0 then
      J_72_0_j74 B
    else
      (F_11 B.draft).bind fun v25 =>
      if v25 = 0 then
        J_72_0_j74 B
      else
        J_72_0_j78 B (-1)
theorem j_72_0_j49 {d : Nat} (hd : 8 ≤ d) {scr : ASc} {res : ARe} {c n : Nat} {h : AHp} {b : Nat} (hb : b + 8 ≤ am_SB) (hh : b + 8 ≤ h.length) {B : Tx} {x1 : Int32} {o : Int32 × Tx} (hr : J_72_0_j49 B x1 = some o) (kr : res = (.inl (some (.int o.1)), hput h b (Tx.cells b o.2), c, n)) : Ex d am_M72 scr (49, [some (.ref b), some (.int x1), none], [], (hput h b (Tx.cells b B)), c, n) res := by
  delta J_72_0_j49 at hr
  refine x_b 1 (S2 := (50, [some (.ref b), some (.int x1), none], [.int x1], (hput h b (Tx.cells b B)), c, n)) rfl ?_
  rcases ite_some hr with ⟨h22, hr⟩ | ⟨h22, hr⟩
  · refine x_zt rfl rfl (decide_eq_true h22) ?_
    refine x_fg (Lq.s (Lq.n (Lq.s Lq.nil))) ?_
    exact j_72_0_j74 hd hb hh hr kr
  · refine x_zf rfl rfl (decide_eq_false h22) ?_
    refine x_ldan rfl rfl rfl ((hp_rg (L := Tx.cells b B) hb hh rfl).lt (i := 0) (show 0 < 8 by decide)) ?_
    refine x_getf rfl rfl ((hp_rg (L := Tx.cells b B) hb hh rfl).lt (i := 0) (show 0 < 8 by decide)) ((hp_rg (L := Tx.cells b B) hb hh rfl).at (i := 0) rfl) rfl ?_
    rcases ite_some hr with ⟨h23, hr⟩ | ⟨h23, hr⟩
    · refine x_zt rfl rfl (decide_eq_true h23) ?_
      refine x_fg (Lq.s (Lq.n (Lq.s Lq.nil))) ?_
      exact j_72_0_j74 hd hb hh hr kr
    · refine x_zf rfl rfl (decide_eq_false h23) ?_
      refine x_ldan rfl rfl rfl ((hp_rg (L := Tx.cells b B) hb hh rfl).lt (i := 0) (show 0 < 8 by decide)) ?_
      refine x_getf rfl rfl ((hp_rg (L := Tx.cells b B) hb hh rfl).lt (i := 0) (show 0 < 8 by decide)) ((hp_rg (L := Tx.cells b B) hb hh rfl).at (i := 0) rfl) rfl ?_
      obtain ⟨v25, h24, hr⟩ := bd_some hr
      refine x_c0 (m_11 (rg_draft (hp_rg (L := Tx.cells b B) hb hh rfl)) h24) rfl rfl rfl rfl (am_recv_v ((rg_draft (hp_rg (L := Tx.cells b B) hb hh rfl)).lt (i := 0) (show 0 < 6 by decide)) ((rg_draft (hp_rg (L := Tx.cells b B) hb hh rfl)).at (i := 0) rfl) rfl) (by omega) ?_
      rcases ite_some hr with ⟨h26, hr⟩ | ⟨h26, hr⟩
      · refine x_zt rfl rfl (decide_eq_true h26) ?_
        refine x_fg (Lq.s (Lq.n (Lq.s Lq.nil))) ?_
        exact j_72_0_j74 hd hb hh hr kr
      · refine x_zf rfl rfl (decide_eq_false h26) ?_
        refine x_b 2 (S2 := (78, [some (.ref b), some (.int x1), none], [.int (-1)], (hput h b (Tx.cells b B)), c, n)) rfl ?_
        refine x_fg (Lq.n (Lq.n (Lq.s Lq.nil))) ?_
        exact j_72_0_j78 hd hb hh hr kr
/-- PebbleProofs$SetupText.check()I -/
def F_72 (B : Tx) : Option (Int32 × Tx) :=
  (some (B.w_stop 0)).bind fun B1 =>
  (F_66 B1).bind fun B4 =>
  (F_73 B4).bind fun (v6, B7) =>
  (lw (G_72_16 ) 200000 (v6, 0, B7)).bind fun (v19, B20) =>
  J_72_0_j49 B20 v19
theorem f_72 {d : Nat} (hd : 8 ≤ d) {scr : ASc} {res : ARe} {c n : Nat} {h : AHp} {b : Nat} (hb : b + 8 ≤ am_SB) (hh : b + 8 ≤ h.length) {B : Tx} {o : Int32 × Tx} (hr : F_72 B = some o) (kr : res = (.inl (some (.int o.1)), hput h b (Tx.cells b o.2), c, n)) : Ex d am_M72 scr (0, [some (.ref b), none, none], [], (hput h b (Tx.cells b B)), c, n) res := by
  delta F_72 at hr
  refine x_ldan rfl rfl rfl ((hp_rg (L := Tx.cells b B) hb hh rfl).lt (i := 0) (show 0 < 8 by decide)) ?_
  refine x_b 1 (S2 := (2, [some (.ref b), none, none], [.int 0, .ref b], (hput h b (Tx.cells b B)), c, n)) rfl ?_
  obtain ⟨B1, h2, hr⟩ := bd_some hr
  refine x_putf (H := (hput h b (Tx.cells b B1))) rfl rfl ((hp_rg (L := Tx.cells b B) hb hh rfl).lt (i := 0) (show 0 < 8 by decide)) ((hp_rg (L := Tx.cells b B) hb hh rfl).at (i := 0) rfl) ⟨(show 5 < 7 by decide), rfl, rfl, nofun⟩ (hp_set (i := 0) hh rfl (by decide) (Tx.s_stop rfl h2)) ?_
  refine x_ldan rfl rfl rfl ((hp_rg (L := Tx.cells b B1) hb hh rfl).lt (i := 0) (show 0 < 8 by decide)) ?_
  obtain ⟨B4, h3, hr⟩ := bd_some hr
  refine x_c0 (m_66 hb hh h3) rfl rfl rfl rfl (am_recv_v ((hp_rg (L := Tx.cells b B1) hb hh rfl).lt (i := 0) (show 0 < 8 by decide)) ((hp_rg (L := Tx.cells b B1) hb hh rfl).at (i := 0) rfl) rfl) (by omega) ?_
  refine x_ldan rfl rfl rfl ((hp_rg (L := Tx.cells b B4) hb hh rfl).lt (i := 0) (show 0 < 8 by decide)) ?_
  obtain ⟨⟨v6, B7⟩, h5, hr⟩ := bd_some hr
  refine x_c0 (m_73 hb hh h5) rfl rfl rfl rfl (am_recv_v ((hp_rg (L := Tx.cells b B4) hb hh rfl).lt (i := 0) (show 0 < 8 by decide)) ((hp_rg (L := Tx.cells b B4) hb hh rfl).at (i := 0) rfl) rfl) (by omega) ?_
  refine x_b 3 (S2 := (16, [some (.ref b), some (.int v6), some (.int 0)], [], (hput h b (Tx.cells b B7)), c, n)) rfl ?_
  refine x_fg (Lq.s (Lq.s (Lq.s Lq.nil))) ?_
  obtain ⟨o21, h18, hr⟩ := bd_some hr
  refine x_lw (P := P_72_16 h b c n ) (Q := fun x => Ex d am_M72 scr (PX_72_16 h b c n  x) res) (fun s o h1 ka kx => g_72_16 hd hb hh h1 ka kx) _ (v6, 0, B7) _ h18 ?_
  obtain ⟨v19, B20⟩ := o21
  show Ex d am_M72 scr (49, [some (.ref b), some (.int v19), none], [], (hput h b (Tx.cells b B20)), c, n) res
  refine x_fg (Lq.s (Lq.s (Lq.s Lq.nil))) ?_
  exact j_72_0_j49 hd hb hh hr kr
theorem m_72 {scr : ASc} {h : AHp} {b : Nat} (hb : b + 8 ≤ am_SB) (hh : b + 8 ≤ h.length) {B : Tx} {o : Int32 × Tx} (hr : F_72 B = some o) : Rn scr 9 72 [.ref b] (hput h b (Tx.cells b B)) (.inl (some (.int o.1)), hput h b (Tx.cells b o.2), 0, 0) :=
  x_meth (M := am_M72) rfl (show 1 ≤ 3 by decide) (f_72 (Nat.le_refl _) hb hh hr rfl)
