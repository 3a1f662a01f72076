/-! ===== STAGE A: yard (by wip/p47/genl.py) ===== -/
/-- PebbleProofsLaw$Why.<init>()V -/
def F_300 (B : Wd) (x0 : Nat) : Option (Unit) :=
  (if x0 < am_SB then some () else none).bind fun _ =>
  some ()
set_option maxRecDepth 200000 in
theorem f_300 {d : Nat} (hd : 1 ≤ d) {scr : ASc} {res : ARe} {B : Wd} {x0 : Nat} {o : Unit} (hr : F_300 B x0 = some o) (kr : res = (.inl none, mk B, Wd.kc B, Wd.kn B)) : Ex d am_M300 scr (0, [some (.ref x0)], [], (mk B), B.kc, B.kn) res := by
  delta F_300 at hr
  refine x_b 1 (S2 := (1, [some (.ref x0)], [.ref x0], (mk B), B.kc, B.kn)) rfl ?_
  obtain ⟨uh2, h2, hr⟩ := bd_some hr
  obtain ⟨h1, -⟩ := itn_some h2
  refine x_obj rfl rfl h1 (Nat.le_of_ble_eq_true rfl) ?_
  cases hr
  rw [kr]
  exact x_ret rfl rfl rfl
set_option maxRecDepth 200000 in
theorem m_300 {scr : ASc} {B : Wd} {x0 : Nat} {o : Unit} (hr : F_300 B x0 = some o) : RnW scr 2 300 [.ref x0] B (.inl none) B :=
  x_methW (M := am_M300) rfl (show 1 ≤ 1 by decide) (f_300 (Nat.le_refl _) hr rfl)
/-- PebbleProofsLaw$Why.refuses(I)I -/
def F_301 (B : Wd) (x0 : Nat) (x1 : Int32) : Option (Int32 × Wd) :=
  (B.pv x0 6 0 (.int x1)).bind fun B1 =>
  some ((3294967293 : Int32), B1)
set_option maxRecDepth 200000 in
theorem f_301 {d : Nat} (hd : 1 ≤ d) {scr : ASc} {res : ARe} {B : Wd} {x0 : Nat} {x1 : Int32} {o : Int32 × Wd} (hr : F_301 B x0 x1 = some o) (kr : res = (.inl (some (.int o.1)), mk o.2, Wd.kc o.2, Wd.kn o.2)) : Ex d am_M301 scr (0, [some (.ref x0), some (.int x1)], [], (mk B), B.kc, B.kn) res := by
  delta F_301 at hr
  refine x_b 2 (S2 := (2, [some (.ref x0), some (.int x1)], [.int x1, .ref x0], (mk B), B.kc, B.kn)) rfl ?_
  obtain ⟨B1, h2, hr⟩ := bd_some hr
  refine x_pv rfl rfl h2 ?_
  refine x_b 1 (S2 := (7, [some (.ref x0), some (.int x1)], [.int (3294967293 : Int32)], (mk B1), B1.kc, B1.kn)) rfl ?_
  cases hr
  rw [kr]
  exact x_ret rfl rfl am_ret_i
set_option maxRecDepth 200000 in
theorem m_301 {scr : ASc} {B : Wd} {x0 : Nat} {x1 : Int32} {o : Int32 × Wd} (hr : F_301 B x0 x1 = some o) : RnW scr 2 301 [.ref x0, .int x1] B (.inl (some (.int o.1))) o.2 :=
  x_methW (M := am_M301) rfl (show 2 ≤ 2 by decide) (f_301 (Nat.le_refl _) hr rfl)
/-- PebbleProofsLaw$Yard.<init>(I)V -/
def F_302 (B : Wd) (x0 : Nat) (x1 : Int32) : Option (Wd) :=
  (if x0 < am_SB then some () else none).bind fun _ =>
  (B.nO 10).bind fun (a3, B4) =>
  (if a3 < am_SB then some () else none).bind fun _ =>
  (F_346 B4 a3).bind fun B9 =>
  (B9.pv x0 7 4 (.ref a3)).bind fun B10 =>
  (B10.nA 2 0).bind fun (a12, B13) =>
  (B13.pv x0 7 5 (.ref a12)).bind fun B15 =>
  (B15.pv x0 7 6 (.int (-1))).bind fun B17 =>
  (B17.nA 0 0).bind fun (a19, B20) =>
  (B20.pv x0 7 7 (.ref a19)).bind fun B22 =>
  (B22.pv x0 7 0 (.int x1)).bind fun B24 =>
  (B24.nM 6 x1 x1).bind fun (a26, B27) =>
  (B27.pv x0 7 1 (.ref a26)).bind fun B29 =>
  (B29.nA 0 x1).bind fun (a31, B32) =>
  (B32.pv x0 7 2 (.ref a31)).bind fun B34 =>
  some B34
set_option maxRecDepth 200000 in
theorem f_302 {d : Nat} (hd : 4 ≤ d) {scr : ASc} {res : ARe} {B : Wd} {x0 : Nat} {x1 : Int32} {o : Wd} (hr : F_302 B x0 x1 = some o) (kr : res = (.inl none, mk o, Wd.kc o, Wd.kn o)) : Ex d am_M302 scr (0, [some (.ref x0), some (.int x1)], [], (mk B), B.kc, B.kn) res := by
  delta F_302 at hr
  refine x_b 1 (S2 := (1, [some (.ref x0), some (.int x1)], [.ref x0], (mk B), B.kc, B.kn)) rfl ?_
  obtain ⟨uh2, h2, hr⟩ := bd_some hr
  obtain ⟨h1, -⟩ := itn_some h2
  refine x_obj rfl rfl h1 (Nat.le_of_ble_eq_true rfl) ?_
  refine x_b 1 (S2 := (5, [some (.ref x0), some (.int x1)], [.ref x0], (mk B), B.kc, B.kn)) rfl ?_
  obtain ⟨⟨a3, B4⟩, h5, hr⟩ := bd_some hr
  refine x_nO rfl rfl h5 ?_
  refine x_b 1 (S2 := (9, [some (.ref x0), some (.int x1)], [.ref a3, .ref a3, .ref x0], (mk B4), B4.kc, B4.kn)) rfl ?_
  obtain ⟨uh7, h7, hr⟩ := bd_some hr
  obtain ⟨h6, -⟩ := itn_some h7
  obtain ⟨B9, h8, hr⟩ := bd_some hr
  refine x_cW (m_346 h8) rfl rfl rfl rfl (am_recv_p h6 (by decide)) (by omega) ?_
  obtain ⟨B10, h11, hr⟩ := bd_some hr
  refine x_pv rfl rfl h11 ?_
  refine x_b 2 (S2 := (17, [some (.ref x0), some (.int x1)], [.int 0, .ref x0], (mk B10), B10.kc, B10.kn)) rfl ?_
  obtain ⟨⟨a12, B13⟩, h14, hr⟩ := bd_some hr
  refine x_nA rfl rfl (.inr (.inr ⟨rfl, rfl⟩)) h14 ?_
  obtain ⟨B15, h16, hr⟩ := bd_some hr
  refine x_pv rfl rfl h16 ?_
  refine x_b 2 (S2 := (24, [some (.ref x0), some (.int x1)], [.int (-1), .ref x0], (mk B15), B15.kc, B15.kn)) rfl ?_
  obtain ⟨B17, h18, hr⟩ := bd_some hr
  refine x_pv rfl rfl h18 ?_
  refine x_b 2 (S2 := (29, [some (.ref x0), some (.int x1)], [.int 0, .ref x0], (mk B17), B17.kc, B17.kn)) rfl ?_
  obtain ⟨⟨a19, B20⟩, h21, hr⟩ := bd_some hr
  refine x_nA rfl rfl (.inl ⟨rfl, rfl⟩) h21 ?_
  obtain ⟨B22, h23, hr⟩ := bd_some hr
  refine x_pv rfl rfl h23 ?_
  refine x_b 2 (S2 := (36, [some (.ref x0), some (.int x1)], [.int x1, .ref x0], (mk B22), B22.kc, B22.kn)) rfl ?_
  obtain ⟨B24, h25, hr⟩ := bd_some hr
  refine x_pv rfl rfl h25 ?_
  refine x_b 3 (S2 := (42, [some (.ref x0), some (.int x1)], [.int x1, .int x1, .ref x0], (mk B24), B24.kc, B24.kn)) rfl ?_
  obtain ⟨⟨a26, B27⟩, h28, hr⟩ := bd_some hr
  refine x_nM rfl rfl (by decide) h28 ?_
  obtain ⟨B29, h30, hr⟩ := bd_some hr
  refine x_pv rfl rfl h30 ?_
  refine x_b 2 (S2 := (51, [some (.ref x0), some (.int x1)], [.int x1, .ref x0], (mk B29), B29.kc, B29.kn)) rfl ?_
  obtain ⟨⟨a31, B32⟩, h33, hr⟩ := bd_some hr
  refine x_nA rfl rfl (.inl ⟨rfl, rfl⟩) h33 ?_
  obtain ⟨B34, h35, hr⟩ := bd_some hr
  refine x_pv rfl rfl h35 ?_
  cases hr
  rw [kr]
  exact x_ret rfl rfl rfl
set_option maxRecDepth 200000 in
theorem m_302 {scr : ASc} {B : Wd} {x0 : Nat} {x1 : Int32} {o : Wd} (hr : F_302 B x0 x1 = some o) : RnW scr 5 302 [.ref x0, .int x1] B (.inl none) o :=
  x_methW (M := am_M302) rfl (show 2 ≤ 2 by decide) (f_302 (Nat.le_refl _) hr rfl)
abbrev P_303_10 (x0 : Nat) (x1 : Nat) (s : Int32 × Wd) : ASt := (10, [some (.ref x0), some (.ref x1), some (.int s.1), none], [], (mk s.2), Wd.kc s.2, Wd.kn s.2)
abbrev PX_303_10 (x0 : Nat) (x1 : Nat) (s : Wd) : ASt := (45, [some (.ref x0), some (.ref x1), none, none], [], (mk s), Wd.kc s, Wd.kn s)
def G_303_10 (x0 : Nat) (x1 : Nat) (s : Int32 × Wd) : Option ((Int32 × Wd) ⊕ (Wd)) := 
  match s with
  | (x2, B) =>
    (B.gI x0 7 0).bind fun v7 =>
    if v7 ≤ x2 then
      some (.inr B)
    else
      (B.gR x1 7 1).bind fun v10 =>
      (B.aR v10 x2).bind fun v12 =>
      (B.gR x0 7 1).bind fun v14 =>
      (B.aR v14 x2).bind fun v16 =>
      (B.gI x0 7 0).bind fun v18 =>
      (B.cp v12 0 v16 0 v18).bind fun B20 =>
      some (.inl ((x2 + 1), B20))
set_option maxRecDepth 200000 in
theorem g_303_10 {d : Nat} (hd : 6 ≤ d) {scr : ASc} {res : ARe} {x0 : Nat} {x1 : Nat} {s : Int32 × Wd} {o : (Int32 × Wd) ⊕ (Wd)} (hr : G_303_10 x0 x1 s = some o) (ka : ∀ s, o = .inl s → Ex d am_M303 scr (P_303_10 x0 x1 s) res) (kx : ∀ s, o = .inr s → Ex d am_M303 scr (PX_303_10 x0 x1 s) res) : Ex d am_M303 scr (P_303_10 x0 x1 s) res := by
  obtain ⟨x2, B⟩ := s
  delta G_303_10 at hr
  show Ex d am_M303 scr (10, [some (.ref x0), some (.ref x1), some (.int x2), none], [], (mk B), B.kc, B.kn) res
  refine x_b 2 (S2 := (12, [some (.ref x0), some (.ref x1), some (.int x2), none], [.ref x0, .int x2], (mk B), B.kc, B.kn)) rfl ?_
  obtain ⟨v7, h8, hr⟩ := bd_some hr
  refine x_gI rfl rfl h8 ?_
  rcases ite_some hr with ⟨h9, hr⟩ | ⟨h9, hr⟩
  · refine x_ct rfl rfl (decide_eq_true h9) ?_
    refine x_fg (Lq.s (Lq.s (Lq.n (Lq.s Lq.nil)))) ?_
    exact kx B (Option.some.inj hr).symm
  · refine x_cf rfl rfl (decide_eq_false h9) ?_
    refine x_b 1 (S2 := (19, [some (.ref x0), some (.ref x1), some (.int x2), none], [.ref x1], (mk B), B.kc, B.kn)) rfl ?_
    obtain ⟨v10, h11, hr⟩ := bd_some hr
    refine x_gR rfl rfl h11 ?_
    refine x_b 1 (S2 := (23, [some (.ref x0), some (.ref x1), some (.int x2), none], [.int x2, .ref v10], (mk B), B.kc, B.kn)) rfl ?_
    obtain ⟨v12, h13, hr⟩ := bd_some hr
    refine x_aR rfl rfl h13 ?_
    refine x_b 2 (S2 := (26, [some (.ref x0), some (.ref x1), some (.int x2), none], [.ref x0, .int 0, .ref v12], (mk B), B.kc, B.kn)) rfl ?_
    obtain ⟨v14, h15, hr⟩ := bd_some hr
    refine x_gR rfl rfl h15 ?_
    refine x_b 1 (S2 := (30, [some (.ref x0), some (.ref x1), some (.int x2), none], [.int x2, .ref v14, .int 0, .ref v12], (mk B), B.kc, B.kn)) rfl ?_
    obtain ⟨v16, h17, hr⟩ := bd_some hr
    refine x_aR rfl rfl h17 ?_
    refine x_b 2 (S2 := (33, [some (.ref x0), some (.ref x1), some (.int x2), none], [.ref x0, .int 0, .ref v16, .int 0, .ref v12], (mk B), B.kc, B.kn)) rfl ?_
    obtain ⟨v18, h19, hr⟩ := bd_some hr
    refine x_gI rfl rfl h19 ?_
    obtain ⟨B20, h21, hr⟩ := bd_some hr
    refine x_cp rfl rfl (Nat.le_of_ble_eq_true rfl) h21 ?_
    refine x_b 2 (S2 := (10, [some (.ref x0), some (.ref x1), some (.int (x2 + 1)), none], [], (mk B20), B20.kc, B20.kn)) rfl ?_
    refine x_fg (Lq.s (Lq.s (Lq.s (Lq.s Lq.nil)))) ?_
    exact ka ((x2 + 1), B20) (Option.some.inj hr).symm
abbrev P_303_78 (x0 : Nat) (x2 : Nat) (s : Wd) : ASt := (78, [some (.ref x0), none, some (.ref x2), none], [], (mk s), Wd.kc s, Wd.kn s)
abbrev PX_303_78 (x0 : Nat) (x2 : Nat) (s : Wd) : ASt := (115, [none, none, none, none], [], (mk s), Wd.kc s, Wd.kn s)
def G_303_78 (x0 : Nat) (x2 : Nat) (s : Wd) : Option ((Wd) ⊕ (Wd)) := 
  match s with
  | B =>
    (B.rc x2 11).bind fun _ =>
    (F_343 B x2).bind fun v45 =>
    if v45 = 0 then
      some (.inr B)
    else
      (B.rc x2 11).bind fun _ =>
      (F_344 B x2).bind fun (a49, B50) =>
      (B50.ra a49 0).bind fun _ =>
      (B50.gR x0 7 4).bind fun v52 =>
      (B50.nC 0 a49).bind fun (a54, B55) =>
      (B55.ra a54 0).bind fun _ =>
      (B55.rc v52 10).bind fun _ =>
      (F_354 B55 v52 a54).bind fun (v60, B61) =>
      some (.inl B61)
set_option maxRecDepth 200000 in
theorem g_303_78 {d : Nat} (hd : 6 ≤ d) {scr : ASc} {res : ARe} {x0 : Nat} {x2 : Nat} {s : Wd} {o : (Wd) ⊕ (Wd)} (hr : G_303_78 x0 x2 s = some o) (ka : ∀ s, o = .inl s → Ex d am_M303 scr (P_303_78 x0 x2 s) res) (kx : ∀ s, o = .inr s → Ex d am_M303 scr (PX_303_78 x0 x2 s) res) : Ex d am_M303 scr (P_303_78 x0 x2 s) res := by
  delta G_303_78 at hr
  show Ex d am_M303 scr (78, [some (.ref x0), none, some (.ref x2), none], [], (mk s), s.kc, s.kn) res
  refine x_b 1 (S2 := (79, [some (.ref x0), none, some (.ref x2), none], [.ref x2], (mk s), s.kc, s.kn)) rfl ?_
  obtain ⟨uh43, h43, hr⟩ := bd_some hr
  obtain ⟨v45, h44, hr⟩ := bd_some hr
  refine x_cI (m_343 h44) rfl rfl rfl rfl (am_recv_i h43 rfl) (by omega) ?_
  rcases ite_some hr with ⟨h46, hr⟩ | ⟨h46, hr⟩
  · refine x_zt rfl rfl (decide_eq_true h46) ?_
    refine x_fg (Lq.n (Lq.s (Lq.n (Lq.s Lq.nil)))) ?_
    exact kx s (Option.some.inj hr).symm
  · refine x_zf rfl rfl (decide_eq_false h46) ?_
    refine x_b 1 (S2 := (88, [some (.ref x0), none, some (.ref x2), none], [.ref x2], (mk s), s.kc, s.kn)) rfl ?_
    obtain ⟨uh47, h47, hr⟩ := bd_some hr
    obtain ⟨⟨a49, B50⟩, h48, hr⟩ := bd_some hr
    refine x_cI (m_344 h48) rfl rfl rfl rfl (am_recv_i h47 rfl) (by omega) ?_
    obtain ⟨uh51, h51, hr⟩ := bd_some hr
    refine x_ckA (t := 0) rfl rfl h51 ?_
    refine x_b 2 (S2 := (98, [some (.ref x0), none, some (.ref x2), some (.ref a49)], [.ref x0], (mk B50), B50.kc, B50.kn)) rfl ?_
    obtain ⟨v52, h53, hr⟩ := bd_some hr
    refine x_gR rfl rfl h53 ?_
    refine x_b 1 (S2 := (102, [some (.ref x0), none, some (.ref x2), some (.ref a49)], [.ref a49, .ref v52], (mk B50), B50.kc, B50.kn)) rfl ?_
    obtain ⟨⟨a54, B55⟩, h56, hr⟩ := bd_some hr
    refine x_nC rfl rfl (Nat.le_of_ble_eq_true rfl) (.inl ⟨rfl, rfl⟩) h56 ?_
    obtain ⟨uh57, h57, hr⟩ := bd_some hr
    refine x_ckA (t := 0) rfl rfl h57 ?_
    obtain ⟨uh58, h58, hr⟩ := bd_some hr
    obtain ⟨⟨v60, B61⟩, h59, hr⟩ := bd_some hr
    refine x_cW (m_354 h59) rfl rfl rfl rfl (am_recv_c h58 (.inl rfl)) (by omega) ?_
    refine x_b 2 (S2 := (78, [some (.ref x0), none, some (.ref x2), some (.ref a49)], [], (mk B61), B61.kc, B61.kn)) rfl ?_
    refine x_fg (Lq.s (Lq.s (Lq.s (Lq.n Lq.nil)))) ?_
    exact ka B61 (Option.some.inj hr).symm
/-- PebbleProofsLaw$Yard.<init>(LPebbleProofsLaw$Yard;)V -/
def F_303 (B : Wd) (x0 : Nat) (x1 : Nat) : Option (Wd) :=
  (B.gI x1 7 0).bind fun v1 =>
  (if x0 < am_SB then some () else none).bind fun _ =>
  (F_302 B x0 v1).bind fun B6 =>
  (lw (G_303_10 x0 x1) 200000 (0, B6)).bind fun B23 =>
  (B23.gR x1 7 2).bind fun v25 =>
  (B23.gR x0 7 2).bind fun v27 =>
  (B23.gI x0 7 0).bind fun v29 =>
  (B23.cp v25 0 v27 0 v29).bind fun B31 =>
  (B31.gI x1 7 3).bind fun v33 =>
  (B31.pv x0 7 3 (.int v33)).bind fun B35 =>
  (B35.gR x1 7 4).bind fun v37 =>
  (B35.rc v37 10).bind fun _ =>
  (F_358 B35 v37).bind fun (a41, B42) =>
  (lw (G_303_78 x0 a41) 200000 B42).bind fun B63 =>
  some B63
set_option maxRecDepth 200000 in
theorem f_303 {d : Nat} (hd : 6 ≤ d) {scr : ASc} {res : ARe} {B : Wd} {x0 : Nat} {x1 : Nat} {o : Wd} (hr : F_303 B x0 x1 = some o) (kr : res = (.inl none, mk o, Wd.kc o, Wd.kn o)) : Ex d am_M303 scr (0, [some (.ref x0), some (.ref x1), none, none], [], (mk B), B.kc, B.kn) res := by
  delta F_303 at hr
  refine x_b 2 (S2 := (2, [some (.ref x0), some (.ref x1), none, none], [.ref x1, .ref x0], (mk B), B.kc, B.kn)) rfl ?_
  obtain ⟨v1, h2, hr⟩ := bd_some hr
  refine x_gI rfl rfl h2 ?_
  obtain ⟨uh4, h4, hr⟩ := bd_some hr
  obtain ⟨h3, -⟩ := itn_some h4
  obtain ⟨B6, h5, hr⟩ := bd_some hr
  refine x_cW (m_302 h5) rfl rfl rfl rfl (am_recv_p h3 (by decide)) (by omega) ?_
  refine x_b 2 (S2 := (10, [some (.ref x0), some (.ref x1), some (.int 0), none], [], (mk B6), B6.kc, B6.kn)) rfl ?_
  refine x_fg (Lq.s (Lq.s (Lq.s (Lq.s Lq.nil)))) ?_
  obtain ⟨B23, h22, hr⟩ := bd_some hr
  refine x_lw (P := P_303_10 x0 x1) (Q := fun x => Ex d am_M303 scr (PX_303_10 x0 x1 x) res) (fun s o h1 ka kx => g_303_10 hd h1 ka kx) _ (0, B6) _ h22 ?_
  show Ex d am_M303 scr (45, [some (.ref x0), some (.ref x1), none, none], [], (mk B23), B23.kc, B23.kn) res
  refine x_b 1 (S2 := (46, [some (.ref x0), some (.ref x1), none, none], [.ref x1], (mk B23), B23.kc, B23.kn)) rfl ?_
  obtain ⟨v25, h26, hr⟩ := bd_some hr
  refine x_gR rfl rfl h26 ?_
  refine x_b 2 (S2 := (51, [some (.ref x0), some (.ref x1), none, none], [.ref x0, .int 0, .ref v25], (mk B23), B23.kc, B23.kn)) rfl ?_
  obtain ⟨v27, h28, hr⟩ := bd_some hr
  refine x_gR rfl rfl h28 ?_
  refine x_b 2 (S2 := (56, [some (.ref x0), some (.ref x1), none, none], [.ref x0, .int 0, .ref v27, .int 0, .ref v25], (mk B23), B23.kc, B23.kn)) rfl ?_
  obtain ⟨v29, h30, hr⟩ := bd_some hr
  refine x_gI rfl rfl h30 ?_
  obtain ⟨B31, h32, hr⟩ := bd_some hr
  refine x_cp rfl rfl (Nat.le_of_ble_eq_true rfl) h32 ?_
  refine x_b 2 (S2 := (64, [some (.ref x0), some (.ref x1), none, none], [.ref x1, .ref x0], (mk B31), B31.kc, B31.kn)) rfl ?_
  obtain ⟨v33, h34, hr⟩ := bd_some hr
  refine x_gI rfl rfl h34 ?_
  obtain ⟨B35, h36, hr⟩ := bd_some hr
  refine x_pv rfl rfl h36 ?_
  refine x_b 1 (S2 := (71, [some (.ref x0), some (.ref x1), none, none], [.ref x1], (mk B35), B35.kc, B35.kn)) rfl ?_
  obtain ⟨v37, h38, hr⟩ := bd_some hr
  refine x_gR rfl rfl h38 ?_
  obtain ⟨uh39, h39, hr⟩ := bd_some hr
  obtain ⟨⟨a41, B42⟩, h40, hr⟩ := bd_some hr
  refine x_cW (m_358 h40) rfl rfl rfl rfl (am_recv_c h39 (.inl rfl)) (by omega) ?_
  refine x_b 1 (S2 := (78, [some (.ref x0), some (.ref x1), some (.ref a41), none], [], (mk B42), B42.kc, B42.kn)) rfl ?_
  refine x_fg (Lq.s (Lq.n (Lq.s (Lq.s Lq.nil)))) ?_
  obtain ⟨B63, h62, hr⟩ := bd_some hr
  refine x_lw (P := P_303_78 x0 a41) (Q := fun x => Ex d am_M303 scr (PX_303_78 x0 a41 x) res) (fun s o h1 ka kx => g_303_78 hd h1 ka kx) _ B42 _ h62 ?_
  show Ex d am_M303 scr (115, [none, none, none, none], [], (mk B63), B63.kc, B63.kn) res
  cases hr
  rw [kr]
  exact x_ret rfl rfl rfl
set_option maxRecDepth 200000 in
theorem m_303 {scr : ASc} {B : Wd} {x0 : Nat} {x1 : Nat} {o : Wd} (hr : F_303 B x0 x1 = some o) : RnW scr 7 303 [.ref x0, .ref x1] B (.inl none) o :=
  x_methW (M := am_M303) rfl (show 2 ≤ 4 by decide) (f_303 (Nat.le_refl _) hr rfl)
def J_304_0_j47 (B : Wd) (x0 : Nat) (t0 : Int32) (t1 : Int32) (t2 : Nat) : Option (Wd) :=
  (B.sB t2 t1 t0).bind fun B25 =>
  (B25.pv x0 7 6 (.int (-1))).bind fun B27 =>
  some B27
set_option maxRecDepth 200000 in
theorem j_304_0_j47 {d : Nat} (hd : 1 ≤ d) {scr : ASc} {res : ARe} {B : Wd} {x0 : Nat} {t0 : Int32} {t1 : Int32} {t2 : Nat} {o : Wd} (hr : J_304_0_j47 B x0 t0 t1 t2 = some o) (kr : res = (.inl none, mk o, Wd.kc o, Wd.kn o)) : Ex d am_M304 scr (47, [some (.ref x0), none, none], [.int t0, .int t1, .ref t2], (mk B), B.kc, B.kn) res := by
  delta J_304_0_j47 at hr
  obtain ⟨B25, h26, hr⟩ := bd_some hr
  refine x_sB rfl rfl h26 ?_
  refine x_b 2 (S2 := (50, [some (.ref x0), none, none], [.int (-1), .ref x0], (mk B25), B25.kc, B25.kn)) rfl ?_
  obtain ⟨B27, h28, hr⟩ := bd_some hr
  refine x_pv rfl rfl h28 ?_
  cases hr
  rw [kr]
  exact x_ret rfl rfl rfl
def J_304_0_j23 (B : Wd) (x0 : Nat) (x1 : Int32) (x2 : Int32) (t0 : Int32) (t1 : Int32) (t2 : Nat) : Option (Wd) :=
  (B.sB t2 t1 t0).bind fun B12 =>
  (B12.gR x0 7 1).bind fun v14 =>
  (B12.aR v14 x2).bind fun v16 =>
  (B12.gR x0 7 1).bind fun v18 =>
  (B12.aR v18 x2).bind fun v20 =>
  (B12.aB v20 x1).bind fun v22 =>
  if ¬ v22 = 0 then
    J_304_0_j47 B12 x0 0 x1 v16
  else
    J_304_0_j47 B12 x0 1 x1 v16
set_option maxRecDepth 200000 in
theorem j_304_0_j23 {d : Nat} (hd : 1 ≤ d) {scr : ASc} {res : ARe} {B : Wd} {x0 : Nat} {x1 : Int32} {x2 : Int32} {t0 : Int32} {t1 : Int32} {t2 : Nat} {o : Wd} (hr : J_304_0_j23 B x0 x1 x2 t0 t1 t2 = some o) (kr : res = (.inl none, mk o, Wd.kc o, Wd.kn o)) : Ex d am_M304 scr (23, [some (.ref x0), some (.int x1), some (.int x2)], [.int t0, .int t1, .ref t2], (mk B), B.kc, B.kn) res := by
  delta J_304_0_j23 at hr
  obtain ⟨B12, h13, hr⟩ := bd_some hr
  refine x_sB rfl rfl h13 ?_
  refine x_b 1 (S2 := (25, [some (.ref x0), some (.int x1), some (.int x2)], [.ref x0], (mk B12), B12.kc, B12.kn)) rfl ?_
  obtain ⟨v14, h15, hr⟩ := bd_some hr
  refine x_gR rfl rfl h15 ?_
  refine x_b 1 (S2 := (29, [some (.ref x0), some (.int x1), some (.int x2)], [.int x2, .ref v14], (mk B12), B12.kc, B12.kn)) rfl ?_
  obtain ⟨v16, h17, hr⟩ := bd_some hr
  refine x_aR rfl rfl h17 ?_
  refine x_b 2 (S2 := (32, [some (.ref x0), some (.int x1), some (.int x2)], [.ref x0, .int x1, .ref v16], (mk B12), B12.kc, B12.kn)) rfl ?_
  obtain ⟨v18, h19, hr⟩ := bd_some hr
  refine x_gR rfl rfl h19 ?_
  refine x_b 1 (S2 := (36, [some (.ref x0), some (.int x1), some (.int x2)], [.int x2, .ref v18, .int x1, .ref v16], (mk B12), B12.kc, B12.kn)) rfl ?_
  obtain ⟨v20, h21, hr⟩ := bd_some hr
  refine x_aR rfl rfl h21 ?_
  refine x_b 1 (S2 := (38, [some (.ref x0), some (.int x1), some (.int x2)], [.int x1, .ref v20, .int x1, .ref v16], (mk B12), B12.kc, B12.kn)) rfl ?_
  obtain ⟨v22, h23, hr⟩ := bd_some hr
  refine x_aB rfl rfl h23 ?_
  rcases ite_some hr with ⟨h24, hr⟩ | ⟨h24, hr⟩
  · refine x_zt rfl rfl (decide_eq_true h24) ?_
    refine x_b 1 (S2 := (47, [some (.ref x0), some (.int x1), some (.int x2)], [.int 0, .int x1, .ref v16], (mk B12), B12.kc, B12.kn)) rfl ?_
    refine x_fg (Lq.s (Lq.n (Lq.n Lq.nil))) ?_
    exact j_304_0_j47 hd hr kr
  · refine x_zf rfl rfl (decide_eq_false h24) ?_
    refine x_b 2 (S2 := (47, [some (.ref x0), some (.int x1), some (.int x2)], [.int 1, .int x1, .ref v16], (mk B12), B12.kc, B12.kn)) rfl ?_
    refine x_fg (Lq.s (Lq.n (Lq.n Lq.nil))) ?_
    exact j_304_0_j47 hd hr kr
/-- PebbleProofsLaw$Yard.turn(II)V -/
def F_304 (B : Wd) (x0 : Nat) (x1 : Int32) (x2 : Int32) : Option (Wd) :=
  (B.gR x0 7 1).bind fun v1 =>
  (B.aR v1 x1).bind fun v3 =>
  (B.gR x0 7 1).bind fun v5 =>
  (B.aR v5 x1).bind fun v7 =>
  (B.aB v7 x2).bind fun v9 =>
  if ¬ v9 = 0 then
    J_304_0_j23 B x0 x1 x2 0 x2 v3
  else
    J_304_0_j23 B x0 x1 x2 1 x2 v3
set_option maxRecDepth 200000 in
theorem f_304 {d : Nat} (hd : 1 ≤ d) {scr : ASc} {res : ARe} {B : Wd} {x0 : Nat} {x1 : Int32} {x2 : Int32} {o : Wd} (hr : F_304 B x0 x1 x2 = some o) (kr : res = (.inl none, mk o, Wd.kc o, Wd.kn o)) : Ex d am_M304 scr (0, [some (.ref x0), some (.int x1), some (.int x2)], [], (mk B), B.kc, B.kn) res := by
  delta F_304 at hr
  refine x_b 1 (S2 := (1, [some (.ref x0), some (.int x1), some (.int x2)], [.ref x0], (mk B), B.kc, B.kn)) rfl ?_
  obtain ⟨v1, h2, hr⟩ := bd_some hr
  refine x_gR rfl rfl h2 ?_
  refine x_b 1 (S2 := (5, [some (.ref x0), some (.int x1), some (.int x2)], [.int x1, .ref v1], (mk B), B.kc, B.kn)) rfl ?_
  obtain ⟨v3, h4, hr⟩ := bd_some hr
  refine x_aR rfl rfl h4 ?_
  refine x_b 2 (S2 := (8, [some (.ref x0), some (.int x1), some (.int x2)], [.ref x0, .int x2, .ref v3], (mk B), B.kc, B.kn)) rfl ?_
  obtain ⟨v5, h6, hr⟩ := bd_some hr
  refine x_gR rfl rfl h6 ?_
  refine x_b 1 (S2 := (12, [some (.ref x0), some (.int x1), some (.int x2)], [.int x1, .ref v5, .int x2, .ref v3], (mk B), B.kc, B.kn)) rfl ?_
  obtain ⟨v7, h8, hr⟩ := bd_some hr
  refine x_aR rfl rfl h8 ?_
  refine x_b 1 (S2 := (14, [some (.ref x0), some (.int x1), some (.int x2)], [.int x2, .ref v7, .int x2, .ref v3], (mk B), B.kc, B.kn)) rfl ?_
  obtain ⟨v9, h10, hr⟩ := bd_some hr
  refine x_aB rfl rfl h10 ?_
  rcases ite_some hr with ⟨h11, hr⟩ | ⟨h11, hr⟩
  · refine x_zt rfl rfl (decide_eq_true h11) ?_
    refine x_b 1 (S2 := (23, [some (.ref x0), some (.int x1), some (.int x2)], [.int 0, .int x2, .ref v3], (mk B), B.kc, B.kn)) rfl ?_
    refine x_fg (Lq.s (Lq.s (Lq.s Lq.nil))) ?_
    exact j_304_0_j23 hd hr kr
  · refine x_zf rfl rfl (decide_eq_false h11) ?_
    refine x_b 2 (S2 := (23, [some (.ref x0), some (.int x1), some (.int x2)], [.int 1, .int x2, .ref v3], (mk B), B.kc, B.kn)) rfl ?_
    refine x_fg (Lq.s (Lq.s (Lq.s Lq.nil))) ?_
    exact j_304_0_j23 hd hr kr
set_option maxRecDepth 200000 in
theorem m_304 {scr : ASc} {B : Wd} {x0 : Nat} {x1 : Int32} {x2 : Int32} {o : Wd} (hr : F_304 B x0 x1 x2 = some o) : RnW scr 2 304 [.ref x0, .int x1, .int x2] B (.inl none) o :=
  x_methW (M := am_M304) rfl (show 3 ≤ 3 by decide) (f_304 (Nat.le_refl _) hr rfl)
abbrev P_305_4 (B : Wd) (x0 : Nat) (s : Int32 × Int32) : ASt := (4, [some (.ref x0), some (.int s.1), some (.int s.2), none], [], (mk B), Wd.kc B, Wd.kn B)
abbrev PX_305_4 (B : Wd) (x0 : Nat) (s : Int32) : ASt := (50, [none, some (.int s), none, none], [], (mk B), Wd.kc B, Wd.kn B)
abbrev P_305_14 (B : Wd) (x0 : Nat) (x2 : Int32) (s : Int32 × Int32) : ASt := (14, [some (.ref x0), some (.int s.1), some (.int x2), some (.int s.2)], [], (mk B), Wd.kc B, Wd.kn B)
abbrev PX_305_14 (B : Wd) (x0 : Nat) (x2 : Int32) (s : Int32) : ASt := (44, [some (.ref x0), some (.int s), some (.int x2), none], [], (mk B), Wd.kc B, Wd.kn B)
def J_305_14_j36 (B : Wd) (x0 : Nat) (x2 : Int32) (x3 : Int32) (t0 : Int32) (t1 : Int32) : Option ((Int32 × Int32) ⊕ (Int32)) :=
  some (.inl ((t1 + t0), (x3 + 1)))
set_option maxRecDepth 200000 in
theorem j_305_14_j36 {d : Nat} (hd : 1 ≤ d) {scr : ASc} {res : ARe} {B : Wd} {x0 : Nat} {x2 : Int32} {x3 : Int32} {t0 : Int32} {t1 : Int32} {o : (Int32 × Int32) ⊕ (Int32)} (hr : J_305_14_j36 B x0 x2 x3 t0 t1 = some o) (ka : ∀ s, o = .inl s → Ex d am_M305 scr (P_305_14 B x0 x2 s) res) (kx : ∀ s, o = .inr s → Ex d am_M305 scr (PX_305_14 B x0 x2 s) res) : Ex d am_M305 scr (36, [some (.ref x0), none, some (.int x2), some (.int x3)], [.int t0, .int t1], (mk B), B.kc, B.kn) res := by
  delta J_305_14_j36 at hr
  refine x_b 4 (S2 := (14, [some (.ref x0), some (.int (t1 + t0)), some (.int x2), some (.int (x3 + 1))], [], (mk B), B.kc, B.kn)) rfl ?_
  refine x_fg (Lq.s (Lq.s (Lq.s (Lq.s Lq.nil)))) ?_
  exact ka ((t1 + t0), (x3 + 1)) (Option.some.inj hr).symm
def G_305_14 (B : Wd) (x0 : Nat) (x2 : Int32) (s : Int32 × Int32) : Option ((Int32 × Int32) ⊕ (Int32)) := 
  match s with
  | (x1, x3) =>
    if x2 ≤ x3 then
      some (.inr x1)
    else
      (B.gR x0 7 1).bind fun v5 =>
      (B.aR v5 x2).bind fun v7 =>
      (B.aB v7 x3).bind fun v9 =>
      if v9 = 0 then
        J_305_14_j36 B x0 x2 x3 0 x1
      else
        J_305_14_j36 B x0 x2 x3 1 x1
set_option maxRecDepth 200000 in
theorem g_305_14 {d : Nat} (hd : 1 ≤ d) {scr : ASc} {res : ARe} {B : Wd} {x0 : Nat} {x2 : Int32} {s : Int32 × Int32} {o : (Int32 × Int32) ⊕ (Int32)} (hr : G_305_14 B x0 x2 s = some o) (ka : ∀ s, o = .inl s → Ex d am_M305 scr (P_305_14 B x0 x2 s) res) (kx : ∀ s, o = .inr s → Ex d am_M305 scr (PX_305_14 B x0 x2 s) res) : Ex d am_M305 scr (P_305_14 B x0 x2 s) res := by
  obtain ⟨x1, x3⟩ := s
  delta G_305_14 at hr
  show Ex d am_M305 scr (14, [some (.ref x0), some (.int x1), some (.int x2), some (.int x3)], [], (mk B), B.kc, B.kn) res
  refine x_b 2 (S2 := (16, [some (.ref x0), some (.int x1), some (.int x2), some (.int x3)], [.int x2, .int x3], (mk B), B.kc, B.kn)) rfl ?_
  rcases ite_some hr with ⟨h4, hr⟩ | ⟨h4, hr⟩
  · refine x_ct rfl rfl (decide_eq_true h4) ?_
    refine x_fg (Lq.s (Lq.s (Lq.s (Lq.n Lq.nil)))) ?_
    exact kx x1 (Option.some.inj hr).symm
  · refine x_cf rfl rfl (decide_eq_false h4) ?_
    refine x_b 2 (S2 := (21, [some (.ref x0), some (.int x1), some (.int x2), some (.int x3)], [.ref x0, .int x1], (mk B), B.kc, B.kn)) rfl ?_
    obtain ⟨v5, h6, hr⟩ := bd_some hr
    refine x_gR rfl rfl h6 ?_
    refine x_b 1 (S2 := (25, [some (.ref x0), some (.int x1), some (.int x2), some (.int x3)], [.int x2, .ref v5, .int x1], (mk B), B.kc, B.kn)) rfl ?_
    obtain ⟨v7, h8, hr⟩ := bd_some hr
    refine x_aR rfl rfl h8 ?_
    refine x_b 1 (S2 := (27, [some (.ref x0), some (.int x1), some (.int x2), some (.int x3)], [.int x3, .ref v7, .int x1], (mk B), B.kc, B.kn)) rfl ?_
    obtain ⟨v9, h10, hr⟩ := bd_some hr
    refine x_aB rfl rfl h10 ?_
    rcases ite_some hr with ⟨h11, hr⟩ | ⟨h11, hr⟩
    · refine x_zt rfl rfl (decide_eq_true h11) ?_
      refine x_b 1 (S2 := (36, [some (.ref x0), some (.int x1), some (.int x2), some (.int x3)], [.int 0, .int x1], (mk B), B.kc, B.kn)) rfl ?_
      refine x_fg (Lq.s (Lq.n (Lq.s (Lq.s Lq.nil)))) ?_
      exact j_305_14_j36 hd hr ka kx
    · refine x_zf rfl rfl (decide_eq_false h11) ?_
      refine x_b 2 (S2 := (36, [some (.ref x0), some (.int x1), some (.int x2), some (.int x3)], [.int 1, .int x1], (mk B), B.kc, B.kn)) rfl ?_
      refine x_fg (Lq.s (Lq.n (Lq.s (Lq.s Lq.nil)))) ?_
      exact j_305_14_j36 hd hr ka kx
def G_305_4 (B : Wd) (x0 : Nat) (s : Int32 × Int32) : Option ((Int32 × Int32) ⊕ (Int32)) := 
  match s with
  | (x1, x2) =>
    (B.gI x0 7 0).bind fun v1 =>
    if v1 ≤ x2 then
      some (.inr x1)
    else
      (lw (G_305_14 B x0 x2) 200000 (x1, 0)).bind fun v13 =>
      some (.inl (v13, (x2 + 1)))
set_option maxRecDepth 200000 in
theorem g_305_4 {d : Nat} (hd : 1 ≤ d) {scr : ASc} {res : ARe} {B : Wd} {x0 : Nat} {s : Int32 × Int32} {o : (Int32 × Int32) ⊕ (Int32)} (hr : G_305_4 B x0 s = some o) (ka : ∀ s, o = .inl s → Ex d am_M305 scr (P_305_4 B x0 s) res) (kx : ∀ s, o = .inr s → Ex d am_M305 scr (PX_305_4 B x0 s) res) : Ex d am_M305 scr (P_305_4 B x0 s) res := by
  obtain ⟨x1, x2⟩ := s
  delta G_305_4 at hr
  show Ex d am_M305 scr (4, [some (.ref x0), some (.int x1), some (.int x2), none], [], (mk B), B.kc, B.kn) res
  refine x_b 2 (S2 := (6, [some (.ref x0), some (.int x1), some (.int x2), none], [.ref x0, .int x2], (mk B), B.kc, B.kn)) rfl ?_
  obtain ⟨v1, h2, hr⟩ := bd_some hr
  refine x_gI rfl rfl h2 ?_
  rcases ite_some hr with ⟨h3, hr⟩ | ⟨h3, hr⟩
  · refine x_ct rfl rfl (decide_eq_true h3) ?_
    refine x_fg (Lq.n (Lq.s (Lq.n (Lq.s Lq.nil)))) ?_
    exact kx x1 (Option.some.inj hr).symm
  · refine x_cf rfl rfl (decide_eq_false h3) ?_
    refine x_b 2 (S2 := (14, [some (.ref x0), some (.int x1), some (.int x2), some (.int 0)], [], (mk B), B.kc, B.kn)) rfl ?_
    refine x_fg (Lq.s (Lq.s (Lq.s (Lq.s Lq.nil)))) ?_
    obtain ⟨v13, h12, hr⟩ := bd_some hr
    refine x_lw (P := P_305_14 B x0 x2) (Q := fun x => Ex d am_M305 scr (PX_305_14 B x0 x2 x) res) (fun s o h1 ka kx => g_305_14 hd h1 ka kx) _ (x1, 0) _ h12 ?_
    show Ex d am_M305 scr (44, [some (.ref x0), some (.int v13), some (.int x2), none], [], (mk B), B.kc, B.kn) res
    refine x_b 2 (S2 := (4, [some (.ref x0), some (.int v13), some (.int (x2 + 1)), none], [], (mk B), B.kc, B.kn)) rfl ?_
    refine x_fg (Lq.s (Lq.s (Lq.s (Lq.s Lq.nil)))) ?_
    exact ka (v13, (x2 + 1)) (Option.some.inj hr).symm
/-- PebbleProofsLaw$Yard.edges()I -/
def F_305 (B : Wd) (x0 : Nat) : Option (Int32) :=
  (lw (G_305_4 B x0) 200000 (0, 0)).bind fun v16 =>
  some v16
set_option maxRecDepth 200000 in
theorem f_305 {d : Nat} (hd : 1 ≤ d) {scr : ASc} {res : ARe} {B : Wd} {x0 : Nat} {o : Int32} (hr : F_305 B x0 = some o) (kr : res = (.inl (some (.int o)), mk B, Wd.kc B, Wd.kn B)) : Ex d am_M305 scr (0, [some (.ref x0), none, none, none], [], (mk B), B.kc, B.kn) res := by
  delta F_305 at hr
  refine x_b 4 (S2 := (4, [some (.ref x0), some (.int 0), some (.int 0), none], [], (mk B), B.kc, B.kn)) rfl ?_
  refine x_fg (Lq.s (Lq.s (Lq.s (Lq.s Lq.nil)))) ?_
  obtain ⟨v16, h15, hr⟩ := bd_some hr
  refine x_lw (P := P_305_4 B x0) (Q := fun x => Ex d am_M305 scr (PX_305_4 B x0 x) res) (fun s o h1 ka kx => g_305_4 hd h1 ka kx) _ (0, 0) _ h15 ?_
  show Ex d am_M305 scr (50, [none, some (.int v16), none, none], [], (mk B), B.kc, B.kn) res
  refine x_b 1 (S2 := (51, [none, some (.int v16), none, none], [.int v16], (mk B), B.kc, B.kn)) rfl ?_
  cases hr
  rw [kr]
  exact x_ret rfl rfl am_ret_i
set_option maxRecDepth 200000 in
theorem m_305 {scr : ASc} {B : Wd} {x0 : Nat} {o : Int32} (hr : F_305 B x0 = some o) : RnW scr 2 305 [.ref x0] B (.inl (some (.int o))) B :=
  x_methW (M := am_M305) rfl (show 1 ≤ 4 by decide) (f_305 (Nat.le_refl _) hr rfl)
abbrev P_306_15 (x0 : Nat) (x1 : Nat) (s : Int32 × Wd) : ASt := (15, [some (.ref x0), some (.ref x1), some (.int s.1), none, none], [], (mk s.2), Wd.kc s.2, Wd.kn s.2)
abbrev PX_306_15 (x0 : Nat) (x1 : Nat) (s : Wd) : ASt := (76, [some (.ref x0), some (.ref x1), none, none, none], [], (mk s), Wd.kc s, Wd.kn s)
abbrev P_306_25 (x0 : Nat) (x1 : Nat) (x2 : Int32) (s : Int32 × Wd) : ASt := (25, [some (.ref x0), some (.ref x1), some (.int x2), some (.int s.1), none], [], (mk s.2), Wd.kc s.2, Wd.kn s.2)
abbrev PX_306_25 (x0 : Nat) (x1 : Nat) (x2 : Int32) (s : Wd) : ASt := (70, [some (.ref x0), some (.ref x1), some (.int x2), none, none], [], (mk s), Wd.kc s, Wd.kn s)
def J_306_25_j63 (B : Wd) (x0 : Nat) (x1 : Nat) (x2 : Int32) (x3 : Int32) (t0 : Int32) (t1 : Int32) (t2 : Nat) : Option ((Int32 × Wd) ⊕ (Wd)) :=
  (B.sI t2 t1 t0).bind fun B24 =>
  some (.inl ((x3 + 1), B24))
set_option maxRecDepth 200000 in
theorem j_306_25_j63 {d : Nat} (hd : 1 ≤ d) {scr : ASc} {res : ARe} {B : Wd} {x0 : Nat} {x1 : Nat} {x2 : Int32} {x3 : Int32} {t0 : Int32} {t1 : Int32} {t2 : Nat} {o : (Int32 × Wd) ⊕ (Wd)} (hr : J_306_25_j63 B x0 x1 x2 x3 t0 t1 t2 = some o) (ka : ∀ s, o = .inl s → Ex d am_M306 scr (P_306_25 x0 x1 x2 s) res) (kx : ∀ s, o = .inr s → Ex d am_M306 scr (PX_306_25 x0 x1 x2 s) res) : Ex d am_M306 scr (63, [some (.ref x0), some (.ref x1), some (.int x2), some (.int x3), none], [.int t0, .int t1, .ref t2], (mk B), B.kc, B.kn) res := by
  delta J_306_25_j63 at hr
  obtain ⟨B24, h25, hr⟩ := bd_some hr
  refine x_sI rfl rfl h25 ?_
  refine x_b 2 (S2 := (25, [some (.ref x0), some (.ref x1), some (.int x2), some (.int (x3 + 1)), none], [], (mk B24), B24.kc, B24.kn)) rfl ?_
  refine x_fg (Lq.s (Lq.s (Lq.s (Lq.s (Lq.s Lq.nil))))) ?_
  exact ka ((x3 + 1), B24) (Option.some.inj hr).symm
def G_306_25 (x0 : Nat) (x1 : Nat) (x2 : Int32) (s : Int32 × Wd) : Option ((Int32 × Wd) ⊕ (Wd)) := 
  match s with
  | (x3, B) =>
    (B.gI x0 7 0).bind fun v11 =>
    if v11 ≤ x3 then
      some (.inr B)
    else
      (B.aR x1 x2).bind fun v14 =>
      if ¬ x2 = x3 then
        (B.gR x0 7 1).bind fun v17 =>
        (B.aR v17 x2).bind fun v19 =>
        (B.aB v19 x3).bind fun v21 =>
        if v21 = 0 then
          J_306_25_j63 B x0 x1 x2 x3 99 x3 v14
        else
          J_306_25_j63 B x0 x1 x2 x3 1 x3 v14
      else
        J_306_25_j63 B x0 x1 x2 x3 0 x3 v14
set_option maxRecDepth 200000 in
theorem g_306_25 {d : Nat} (hd : 1 ≤ d) {scr : ASc} {res : ARe} {x0 : Nat} {x1 : Nat} {x2 : Int32} {s : Int32 × Wd} {o : (Int32 × Wd) ⊕ (Wd)} (hr : G_306_25 x0 x1 x2 s = some o) (ka : ∀ s, o = .inl s → Ex d am_M306 scr (P_306_25 x0 x1 x2 s) res) (kx : ∀ s, o = .inr s → Ex d am_M306 scr (PX_306_25 x0 x1 x2 s) res) : Ex d am_M306 scr (P_306_25 x0 x1 x2 s) res := by
  obtain ⟨x3, B⟩ := s
  delta G_306_25 at hr
  show Ex d am_M306 scr (25, [some (.ref x0), some (.ref x1), some (.int x2), some (.int x3), none], [], (mk B), B.kc, B.kn) res
  refine x_b 2 (S2 := (27, [some (.ref x0), some (.ref x1), some (.int x2), some (.int x3), none], [.ref x0, .int x3], (mk B), B.kc, B.kn)) rfl ?_
  obtain ⟨v11, h12, hr⟩ := bd_some hr
  refine x_gI rfl rfl h12 ?_
  rcases ite_some hr with ⟨h13, hr⟩ | ⟨h13, hr⟩
  · refine x_ct rfl rfl (decide_eq_true h13) ?_
    refine x_fg (Lq.s (Lq.s (Lq.s (Lq.n (Lq.s Lq.nil))))) ?_
    exact kx B (Option.some.inj hr).symm
  · refine x_cf rfl rfl (decide_eq_false h13) ?_
    refine x_b 2 (S2 := (35, [some (.ref x0), some (.ref x1), some (.int x2), some (.int x3), none], [.int x2, .ref x1], (mk B), B.kc, B.kn)) rfl ?_
    obtain ⟨v14, h15, hr⟩ := bd_some hr
    refine x_aR rfl rfl h15 ?_
    refine x_b 3 (S2 := (39, [some (.ref x0), some (.ref x1), some (.int x2), some (.int x3), none], [.int x3, .int x2, .int x3, .ref v14], (mk B), B.kc, B.kn)) rfl ?_
    rcases ite_some hr with ⟨h16, hr⟩ | ⟨h16, hr⟩
    · refine x_ct rfl rfl (decide_eq_true h16) ?_
      refine x_b 1 (S2 := (47, [some (.ref x0), some (.ref x1), some (.int x2), some (.int x3), none], [.ref x0, .int x3, .ref v14], (mk B), B.kc, B.kn)) rfl ?_
      obtain ⟨v17, h18, hr⟩ := bd_some hr
      refine x_gR rfl rfl h18 ?_
      refine x_b 1 (S2 := (51, [some (.ref x0), some (.ref x1), some (.int x2), some (.int x3), none], [.int x2, .ref v17, .int x3, .ref v14], (mk B), B.kc, B.kn)) rfl ?_
      obtain ⟨v19, h20, hr⟩ := bd_some hr
      refine x_aR rfl rfl h20 ?_
      refine x_b 1 (S2 := (53, [some (.ref x0), some (.ref x1), some (.int x2), some (.int x3), none], [.int x3, .ref v19, .int x3, .ref v14], (mk B), B.kc, B.kn)) rfl ?_
      obtain ⟨v21, h22, hr⟩ := bd_some hr
      refine x_aB rfl rfl h22 ?_
      rcases ite_some hr with ⟨h23, hr⟩ | ⟨h23, hr⟩
      · refine x_zt rfl rfl (decide_eq_true h23) ?_
        refine x_b 1 (S2 := (63, [some (.ref x0), some (.ref x1), some (.int x2), some (.int x3), none], [.int 99, .int x3, .ref v14], (mk B), B.kc, B.kn)) rfl ?_
        refine x_fg (Lq.s (Lq.s (Lq.s (Lq.s (Lq.s Lq.nil))))) ?_
        exact j_306_25_j63 hd hr ka kx
      · refine x_zf rfl rfl (decide_eq_false h23) ?_
        refine x_b 2 (S2 := (63, [some (.ref x0), some (.ref x1), some (.int x2), some (.int x3), none], [.int 1, .int x3, .ref v14], (mk B), B.kc, B.kn)) rfl ?_
        refine x_fg (Lq.s (Lq.s (Lq.s (Lq.s (Lq.s Lq.nil))))) ?_
        exact j_306_25_j63 hd hr ka kx
    · refine x_cf rfl rfl (decide_eq_false h16) ?_
      refine x_b 2 (S2 := (63, [some (.ref x0), some (.ref x1), some (.int x2), some (.int x3), none], [.int 0, .int x3, .ref v14], (mk B), B.kc, B.kn)) rfl ?_
      refine x_fg (Lq.s (Lq.s (Lq.s (Lq.s (Lq.s Lq.nil))))) ?_
      exact j_306_25_j63 hd hr ka kx
def G_306_15 (x0 : Nat) (x1 : Nat) (s : Int32 × Wd) : Option ((Int32 × Wd) ⊕ (Wd)) := 
  match s with
  | (x2, B) =>
    (B.gI x0 7 0).bind fun v8 =>
    if v8 ≤ x2 then
      some (.inr B)
    else
      (lw (G_306_25 x0 x1 x2) 200000 (0, B)).bind fun B27 =>
      some (.inl ((x2 + 1), B27))
set_option maxRecDepth 200000 in
theorem g_306_15 {d : Nat} (hd : 1 ≤ d) {scr : ASc} {res : ARe} {x0 : Nat} {x1 : Nat} {s : Int32 × Wd} {o : (Int32 × Wd) ⊕ (Wd)} (hr : G_306_15 x0 x1 s = some o) (ka : ∀ s, o = .inl s → Ex d am_M306 scr (P_306_15 x0 x1 s) res) (kx : ∀ s, o = .inr s → Ex d am_M306 scr (PX_306_15 x0 x1 s) res) : Ex d am_M306 scr (P_306_15 x0 x1 s) res := by
  obtain ⟨x2, B⟩ := s
  delta G_306_15 at hr
  show Ex d am_M306 scr (15, [some (.ref x0), some (.ref x1), some (.int x2), none, none], [], (mk B), B.kc, B.kn) res
  refine x_b 2 (S2 := (17, [some (.ref x0), some (.ref x1), some (.int x2), none, none], [.ref x0, .int x2], (mk B), B.kc, B.kn)) rfl ?_
  obtain ⟨v8, h9, hr⟩ := bd_some hr
  refine x_gI rfl rfl h9 ?_
  rcases ite_some hr with ⟨h10, hr⟩ | ⟨h10, hr⟩
  · refine x_ct rfl rfl (decide_eq_true h10) ?_
    refine x_fg (Lq.s (Lq.s (Lq.n (Lq.s (Lq.s Lq.nil))))) ?_
    exact kx B (Option.some.inj hr).symm
  · refine x_cf rfl rfl (decide_eq_false h10) ?_
    refine x_b 2 (S2 := (25, [some (.ref x0), some (.ref x1), some (.int x2), some (.int 0), none], [], (mk B), B.kc, B.kn)) rfl ?_
    refine x_fg (Lq.s (Lq.s (Lq.s (Lq.s (Lq.s Lq.nil))))) ?_
    obtain ⟨B27, h26, hr⟩ := bd_some hr
    refine x_lw (P := P_306_25 x0 x1 x2) (Q := fun x => Ex d am_M306 scr (PX_306_25 x0 x1 x2 x) res) (fun s o h1 ka kx => g_306_25 hd h1 ka kx) _ (0, B) _ h26 ?_
    show Ex d am_M306 scr (70, [some (.ref x0), some (.ref x1), some (.int x2), none, none], [], (mk B27), B27.kc, B27.kn) res
    refine x_b 2 (S2 := (15, [some (.ref x0), some (.ref x1), some (.int (x2 + 1)), none, none], [], (mk B27), B27.kc, B27.kn)) rfl ?_
    refine x_fg (Lq.s (Lq.s (Lq.s (Lq.s (Lq.s Lq.nil))))) ?_
    exact ka ((x2 + 1), B27) (Option.some.inj hr).symm
abbrev P_306_78 (x0 : Nat) (x1 : Nat) (s : Int32 × Wd) : ASt := (78, [some (.ref x0), some (.ref x1), some (.int s.1), none, none], [], (mk s.2), Wd.kc s.2, Wd.kn s.2)
abbrev PX_306_78 (x0 : Nat) (x1 : Nat) (s : Wd) : ASt := (153, [none, some (.ref x1), none, none, none], [], (mk s), Wd.kc s, Wd.kn s)
abbrev P_306_88 (x0 : Nat) (x1 : Nat) (x2 : Int32) (s : Int32 × Wd) : ASt := (88, [some (.ref x0), some (.ref x1), some (.int x2), some (.int s.1), none], [], (mk s.2), Wd.kc s.2, Wd.kn s.2)
abbrev PX_306_88 (x0 : Nat) (x1 : Nat) (x2 : Int32) (s : Wd) : ASt := (147, [some (.ref x0), some (.ref x1), some (.int x2), none, none], [], (mk s), Wd.kc s, Wd.kn s)
abbrev P_306_99 (x0 : Nat) (x1 : Nat) (x2 : Int32) (x3 : Int32) (s : Int32 × Wd) : ASt := (99, [some (.ref x0), some (.ref x1), some (.int x2), some (.int x3), some (.int s.1)], [], (mk s.2), Wd.kc s.2, Wd.kn s.2)
abbrev PX_306_99 (x0 : Nat) (x1 : Nat) (x2 : Int32) (x3 : Int32) (s : Wd) : ASt := (141, [some (.ref x0), some (.ref x1), some (.int x2), some (.int x3), none], [], (mk s), Wd.kc s, Wd.kn s)
def G_306_99 (x0 : Nat) (x1 : Nat) (x2 : Int32) (x3 : Int32) (s : Int32 × Wd) : Option ((Int32 × Wd) ⊕ (Wd)) := 
  match s with
  | (x4, B) =>
    (B.gI x0 7 0).bind fun v38 =>
    if v38 ≤ x4 then
      some (.inr B)
    else
      (B.aR x1 x3).bind fun v41 =>
      (B.aR x1 x3).bind fun v43 =>
      (B.aI v43 x4).bind fun v45 =>
      (B.aR x1 x3).bind fun v47 =>
      (B.aI v47 x2).bind fun v49 =>
      (B.aR x1 x2).bind fun v51 =>
      (B.aI v51 x4).bind fun v53 =>
      (B.sI v41 x4 (imn v45 (v49 + v53))).bind fun B55 =>
      some (.inl ((x4 + 1), B55))
set_option maxRecDepth 200000 in
theorem g_306_99 {d : Nat} (hd : 1 ≤ d) {scr : ASc} {res : ARe} {x0 : Nat} {x1 : Nat} {x2 : Int32} {x3 : Int32} {s : Int32 × Wd} {o : (Int32 × Wd) ⊕ (Wd)} (hr : G_306_99 x0 x1 x2 x3 s = some o) (ka : ∀ s, o = .inl s → Ex d am_M306 scr (P_306_99 x0 x1 x2 x3 s) res) (kx : ∀ s, o = .inr s → Ex d am_M306 scr (PX_306_99 x0 x1 x2 x3 s) res) : Ex d am_M306 scr (P_306_99 x0 x1 x2 x3 s) res := by
  obtain ⟨x4, B⟩ := s
  delta G_306_99 at hr
  show Ex d am_M306 scr (99, [some (.ref x0), some (.ref x1), some (.int x2), some (.int x3), some (.int x4)], [], (mk B), B.kc, B.kn) res
  refine x_b 2 (S2 := (102, [some (.ref x0), some (.ref x1), some (.int x2), some (.int x3), some (.int x4)], [.ref x0, .int x4], (mk B), B.kc, B.kn)) rfl ?_
  obtain ⟨v38, h39, hr⟩ := bd_some hr
  refine x_gI rfl rfl h39 ?_
  rcases ite_some hr with ⟨h40, hr⟩ | ⟨h40, hr⟩
  · refine x_ct rfl rfl (decide_eq_true h40) ?_
    refine x_fg (Lq.s (Lq.s (Lq.s (Lq.s (Lq.n Lq.nil))))) ?_
    exact kx B (Option.some.inj hr).symm
  · refine x_cf rfl rfl (decide_eq_false h40) ?_
    refine x_b 2 (S2 := (110, [some (.ref x0), some (.ref x1), some (.int x2), some (.int x3), some (.int x4)], [.int x3, .ref x1], (mk B), B.kc, B.kn)) rfl ?_
    obtain ⟨v41, h42, hr⟩ := bd_some hr
    refine x_aR rfl rfl h42 ?_
    refine x_b 3 (S2 := (115, [some (.ref x0), some (.ref x1), some (.int x2), some (.int x3), some (.int x4)], [.int x3, .ref x1, .int x4, .ref v41], (mk B), B.kc, B.kn)) rfl ?_
    obtain ⟨v43, h44, hr⟩ := bd_some hr
    refine x_aR rfl rfl h44 ?_
    refine x_b 1 (S2 := (118, [some (.ref x0), some (.ref x1), some (.int x2), some (.int x3), some (.int x4)], [.int x4, .ref v43, .int x4, .ref v41], (mk B), B.kc, B.kn)) rfl ?_
    obtain ⟨v45, h46, hr⟩ := bd_some hr
    refine x_aI rfl rfl h46 ?_
    refine x_b 2 (S2 := (121, [some (.ref x0), some (.ref x1), some (.int x2), some (.int x3), some (.int x4)], [.int x3, .ref x1, .int v45, .int x4, .ref v41], (mk B), B.kc, B.kn)) rfl ?_
    obtain ⟨v47, h48, hr⟩ := bd_some hr
    refine x_aR rfl rfl h48 ?_
    refine x_b 1 (S2 := (123, [some (.ref x0), some (.ref x1), some (.int x2), some (.int x3), some (.int x4)], [.int x2, .ref v47, .int v45, .int x4, .ref v41], (mk B), B.kc, B.kn)) rfl ?_
    obtain ⟨v49, h50, hr⟩ := bd_some hr
    refine x_aI rfl rfl h50 ?_
    refine x_b 2 (S2 := (126, [some (.ref x0), some (.ref x1), some (.int x2), some (.int x3), some (.int x4)], [.int x2, .ref x1, .int v49, .int v45, .int x4, .ref v41], (mk B), B.kc, B.kn)) rfl ?_
    obtain ⟨v51, h52, hr⟩ := bd_some hr
    refine x_aR rfl rfl h52 ?_
    refine x_b 1 (S2 := (129, [some (.ref x0), some (.ref x1), some (.int x2), some (.int x3), some (.int x4)], [.int x4, .ref v51, .int v49, .int v45, .int x4, .ref v41], (mk B), B.kc, B.kn)) rfl ?_
    obtain ⟨v53, h54, hr⟩ := bd_some hr
    refine x_aI rfl rfl h54 ?_
    refine x_b 2 (S2 := (134, [some (.ref x0), some (.ref x1), some (.int x2), some (.int x3), some (.int x4)], [.int (imn v45 (v49 + v53)), .int x4, .ref v41], (mk B), B.kc, B.kn)) rfl ?_
    obtain ⟨B55, h56, hr⟩ := bd_some hr
    refine x_sI rfl rfl h56 ?_
    refine x_b 2 (S2 := (99, [some (.ref x0), some (.ref x1), some (.int x2), some (.int x3), some (.int (x4 + 1))], [], (mk B55), B55.kc, B55.kn)) rfl ?_
    refine x_fg (Lq.s (Lq.s (Lq.s (Lq.s (Lq.s Lq.nil))))) ?_
    exact ka ((x4 + 1), B55) (Option.some.inj hr).symm
def G_306_88 (x0 : Nat) (x1 : Nat) (x2 : Int32) (s : Int32 × Wd) : Option ((Int32 × Wd) ⊕ (Wd)) := 
  match s with
  | (x3, B) =>
    (B.gI x0 7 0).bind fun v35 =>
    if v35 ≤ x3 then
      some (.inr B)
    else
      (lw (G_306_99 x0 x1 x2 x3) 200000 (0, B)).bind fun B58 =>
      some (.inl ((x3 + 1), B58))
set_option maxRecDepth 200000 in
theorem g_306_88 {d : Nat} (hd : 1 ≤ d) {scr : ASc} {res : ARe} {x0 : Nat} {x1 : Nat} {x2 : Int32} {s : Int32 × Wd} {o : (Int32 × Wd) ⊕ (Wd)} (hr : G_306_88 x0 x1 x2 s = some o) (ka : ∀ s, o = .inl s → Ex d am_M306 scr (P_306_88 x0 x1 x2 s) res) (kx : ∀ s, o = .inr s → Ex d am_M306 scr (PX_306_88 x0 x1 x2 s) res) : Ex d am_M306 scr (P_306_88 x0 x1 x2 s) res := by
  obtain ⟨x3, B⟩ := s
  delta G_306_88 at hr
  show Ex d am_M306 scr (88, [some (.ref x0), some (.ref x1), some (.int x2), some (.int x3), none], [], (mk B), B.kc, B.kn) res
  refine x_b 2 (S2 := (90, [some (.ref x0), some (.ref x1), some (.int x2), some (.int x3), none], [.ref x0, .int x3], (mk B), B.kc, B.kn)) rfl ?_
  obtain ⟨v35, h36, hr⟩ := bd_some hr
  refine x_gI rfl rfl h36 ?_
  rcases ite_some hr with ⟨h37, hr⟩ | ⟨h37, hr⟩
  · refine x_ct rfl rfl (decide_eq_true h37) ?_
    refine x_fg (Lq.s (Lq.s (Lq.s (Lq.n (Lq.s Lq.nil))))) ?_
    exact kx B (Option.some.inj hr).symm
  · refine x_cf rfl rfl (decide_eq_false h37) ?_
    refine x_b 2 (S2 := (99, [some (.ref x0), some (.ref x1), some (.int x2), some (.int x3), some (.int 0)], [], (mk B), B.kc, B.kn)) rfl ?_
    refine x_fg (Lq.s (Lq.s (Lq.s (Lq.s (Lq.s Lq.nil))))) ?_
    obtain ⟨B58, h57, hr⟩ := bd_some hr
    refine x_lw (P := P_306_99 x0 x1 x2 x3) (Q := fun x => Ex d am_M306 scr (PX_306_99 x0 x1 x2 x3 x) res) (fun s o h1 ka kx => g_306_99 hd h1 ka kx) _ (0, B) _ h57 ?_
    show Ex d am_M306 scr (141, [some (.ref x0), some (.ref x1), some (.int x2), some (.int x3), none], [], (mk B58), B58.kc, B58.kn) res
    refine x_b 2 (S2 := (88, [some (.ref x0), some (.ref x1), some (.int x2), some (.int (x3 + 1)), none], [], (mk B58), B58.kc, B58.kn)) rfl ?_
    refine x_fg (Lq.s (Lq.s (Lq.s (Lq.s (Lq.s Lq.nil))))) ?_
    exact ka ((x3 + 1), B58) (Option.some.inj hr).symm
def G_306_78 (x0 : Nat) (x1 : Nat) (s : Int32 × Wd) : Option ((Int32 × Wd) ⊕ (Wd)) := 
  match s with
  | (x2, B) =>
    (B.gI x0 7 0).bind fun v32 =>
    if v32 ≤ x2 then
      some (.inr B)
    else
      (lw (G_306_88 x0 x1 x2) 200000 (0, B)).bind fun B61 =>
      some (.inl ((x2 + 1), B61))
set_option maxRecDepth 200000 in
theorem g_306_78 {d : Nat} (hd : 1 ≤ d) {scr : ASc} {res : ARe} {x0 : Nat} {x1 : Nat} {s : Int32 × Wd} {o : (Int32 × Wd) ⊕ (Wd)} (hr : G_306_78 x0 x1 s = some o) (ka : ∀ s, o = .inl s → Ex d am_M306 scr (P_306_78 x0 x1 s) res) (kx : ∀ s, o = .inr s → Ex d am_M306 scr (PX_306_78 x0 x1 s) res) : Ex d am_M306 scr (P_306_78 x0 x1 s) res := by
  obtain ⟨x2, B⟩ := s
  delta G_306_78 at hr
  show Ex d am_M306 scr (78, [some (.ref x0), some (.ref x1), some (.int x2), none, none], [], (mk B), B.kc, B.kn) res
  refine x_b 2 (S2 := (80, [some (.ref x0), some (.ref x1), some (.int x2), none, none], [.ref x0, .int x2], (mk B), B.kc, B.kn)) rfl ?_
  obtain ⟨v32, h33, hr⟩ := bd_some hr
  refine x_gI rfl rfl h33 ?_
  rcases ite_some hr with ⟨h34, hr⟩ | ⟨h34, hr⟩
  · refine x_ct rfl rfl (decide_eq_true h34) ?_
    refine x_fg (Lq.n (Lq.s (Lq.n (Lq.s (Lq.s Lq.nil))))) ?_
    exact kx B (Option.some.inj hr).symm
  · refine x_cf rfl rfl (decide_eq_false h34) ?_
    refine x_b 2 (S2 := (88, [some (.ref x0), some (.ref x1), some (.int x2), some (.int 0), none], [], (mk B), B.kc, B.kn)) rfl ?_
    refine x_fg (Lq.s (Lq.s (Lq.s (Lq.s (Lq.s Lq.nil))))) ?_
    obtain ⟨B61, h60, hr⟩ := bd_some hr
    refine x_lw (P := P_306_88 x0 x1 x2) (Q := fun x => Ex d am_M306 scr (PX_306_88 x0 x1 x2 x) res) (fun s o h1 ka kx => g_306_88 hd h1 ka kx) _ (0, B) _ h60 ?_
    show Ex d am_M306 scr (147, [some (.ref x0), some (.ref x1), some (.int x2), none, none], [], (mk B61), B61.kc, B61.kn) res
    refine x_b 2 (S2 := (78, [some (.ref x0), some (.ref x1), some (.int (x2 + 1)), none, none], [], (mk B61), B61.kc, B61.kn)) rfl ?_
    refine x_fg (Lq.s (Lq.s (Lq.s (Lq.s (Lq.s Lq.nil))))) ?_
    exact ka ((x2 + 1), B61) (Option.some.inj hr).symm
/-- PebbleProofsLaw$Yard.distances()[[I -/
def F_306 (B : Wd) (x0 : Nat) : Option (Nat × Wd) :=
  (B.gI x0 7 0).bind fun v1 =>
  (B.gI x0 7 0).bind fun v3 =>
  (B.nM 7 v1 v3).bind fun (a5, B6) =>
  (lw (G_306_15 x0 a5) 200000 (0, B6)).bind fun B30 =>
  (lw (G_306_78 x0 a5) 200000 (0, B30)).bind fun B64 =>
  (if a5 < am_SB then some () else none).bind fun _ =>
  some (a5, B64)
set_option maxRecDepth 200000 in
theorem f_306 {d : Nat} (hd : 1 ≤ d) {scr : ASc} {res : ARe} {B : Wd} {x0 : Nat} {o : Nat × Wd} (hr : F_306 B x0 = some o) (kr : res = (.inl (some (.ref o.1)), mk o.2, Wd.kc o.2, Wd.kn o.2)) : Ex d am_M306 scr (0, [some (.ref x0), none, none, none, none], [], (mk B), B.kc, B.kn) res := by
  delta F_306 at hr
  refine x_b 1 (S2 := (1, [some (.ref x0), none, none, none, none], [.ref x0], (mk B), B.kc, B.kn)) rfl ?_
  obtain ⟨v1, h2, hr⟩ := bd_some hr
  refine x_gI rfl rfl h2 ?_
  refine x_b 1 (S2 := (5, [some (.ref x0), none, none, none, none], [.ref x0, .int v1], (mk B), B.kc, B.kn)) rfl ?_
  obtain ⟨v3, h4, hr⟩ := bd_some hr
  refine x_gI rfl rfl h4 ?_
  obtain ⟨⟨a5, B6⟩, h7, hr⟩ := bd_some hr
  refine x_nM rfl rfl (by decide) h7 ?_
  refine x_b 3 (S2 := (15, [some (.ref x0), some (.ref a5), some (.int 0), none, none], [], (mk B6), B6.kc, B6.kn)) rfl ?_
  refine x_fg (Lq.s (Lq.s (Lq.s (Lq.s (Lq.s Lq.nil))))) ?_
  obtain ⟨B30, h29, hr⟩ := bd_some hr
  refine x_lw (P := P_306_15 x0 a5) (Q := fun x => Ex d am_M306 scr (PX_306_15 x0 a5 x) res) (fun s o h1 ka kx => g_306_15 hd h1 ka kx) _ (0, B6) _ h29 ?_
  show Ex d am_M306 scr (76, [some (.ref x0), some (.ref a5), none, none, none], [], (mk B30), B30.kc, B30.kn) res
  refine x_b 2 (S2 := (78, [some (.ref x0), some (.ref a5), some (.int 0), none, none], [], (mk B30), B30.kc, B30.kn)) rfl ?_
  refine x_fg (Lq.s (Lq.s (Lq.s (Lq.s (Lq.s Lq.nil))))) ?_
  obtain ⟨B64, h63, hr⟩ := bd_some hr
  refine x_lw (P := P_306_78 x0 a5) (Q := fun x => Ex d am_M306 scr (PX_306_78 x0 a5 x) res) (fun s o h1 ka kx => g_306_78 hd h1 ka kx) _ (0, B30) _ h63 ?_
  show Ex d am_M306 scr (153, [none, some (.ref a5), none, none, none], [], (mk B64), B64.kc, B64.kn) res
  refine x_b 1 (S2 := (154, [none, some (.ref a5), none, none, none], [.ref a5], (mk B64), B64.kc, B64.kn)) rfl ?_
  obtain ⟨uh67, h67, hr⟩ := bd_some hr
  obtain ⟨h66, -⟩ := itn_some h67
  cases hr
  rw [kr]
  exact x_ret rfl rfl (am_ret_y h66)
set_option maxRecDepth 200000 in
theorem m_306 {scr : ASc} {B : Wd} {x0 : Nat} {o : Nat × Wd} (hr : F_306 B x0 = some o) : RnW scr 2 306 [.ref x0] B (.inl (some (.ref o.1))) o.2 :=
  x_methW (M := am_M306) rfl (show 1 ≤ 5 by decide) (f_306 (Nat.le_refl _) hr rfl)
abbrev P_307_12 (B : Wd) (x1 : Nat) (x2 : Int32) (s : Int32) : ASt := (12, [none, some (.ref x1), some (.int x2), some (.int s), none], [], (mk B), Wd.kc B, Wd.kn B)
abbrev PX_307_12 (B : Wd) (x1 : Nat) (x2 : Int32) (s : Unit) : ASt := (37, [none, none, none, none, none], [], (mk B), Wd.kc B, Wd.kn B)
def G_307_12 (B : Wd) (x1 : Nat) (x2 : Int32) (s : Int32) : Option ((Int32) ⊕ (Unit) ⊕ (Int32 × Wd)) := 
  match s with
  | x3 =>
    if x2 ≤ x3 then
      some (.inr (.inl ()))
    else
      (B.aI x1 x3).bind fun v10 =>
      if v10 < 99 then
        some (.inl (x3 + 1))
      else
        some (.inr (.inr (0, B)))
set_option maxRecDepth 200000 in
theorem g_307_12 {d : Nat} (hd : 2 ≤ d) {scr : ASc} {res : ARe} {B : Wd} {x1 : Nat} {x2 : Int32} {s : Int32} {o : (Int32) ⊕ (Unit) ⊕ (Int32 × Wd)} (hr : G_307_12 B x1 x2 s = some o) (ka : ∀ s, o = .inl s → Ex d am_M307 scr (P_307_12 B x1 x2 s) res) (kx : ∀ s, o = .inr (.inl s) → Ex d am_M307 scr (PX_307_12 B x1 x2 s) res) (kr : ∀ r, o = .inr (.inr r) → res = (.inl (some (.int r.1)), mk r.2, Wd.kc r.2, Wd.kn r.2)) : Ex d am_M307 scr (P_307_12 B x1 x2 s) res := by
  delta G_307_12 at hr
  show Ex d am_M307 scr (12, [none, some (.ref x1), some (.int x2), some (.int s), none], [], (mk B), B.kc, B.kn) res
  refine x_b 2 (S2 := (14, [none, some (.ref x1), some (.int x2), some (.int s), none], [.int x2, .int s], (mk B), B.kc, B.kn)) rfl ?_
  rcases ite_some hr with ⟨h9, hr⟩ | ⟨h9, hr⟩
  · refine x_ct rfl rfl (decide_eq_true h9) ?_
    refine x_fg (Lq.s (Lq.n (Lq.n (Lq.n (Lq.s Lq.nil))))) ?_
    exact kx () (Option.some.inj hr).symm
  · refine x_cf rfl rfl (decide_eq_false h9) ?_
    refine x_b 2 (S2 := (19, [none, some (.ref x1), some (.int x2), some (.int s), none], [.int s, .ref x1], (mk B), B.kc, B.kn)) rfl ?_
    obtain ⟨v10, h11, hr⟩ := bd_some hr
    refine x_aI rfl rfl h11 ?_
    refine x_b 3 (S2 := (26, [none, some (.ref x1), some (.int x2), some (.int s), some (.int v10)], [.int 99, .int v10], (mk B), B.kc, B.kn)) rfl ?_
    rcases ite_some hr with ⟨h12, hr⟩ | ⟨h12, hr⟩
    · refine x_ct rfl rfl (decide_eq_true h12) ?_
      refine x_b 2 (S2 := (12, [none, some (.ref x1), some (.int x2), some (.int (s + 1)), some (.int v10)], [], (mk B), B.kc, B.kn)) rfl ?_
      refine x_fg (Lq.s (Lq.s (Lq.s (Lq.s (Lq.n Lq.nil))))) ?_
      exact ka (s + 1) (Option.some.inj hr).symm
    · refine x_cf rfl rfl (decide_eq_false h12) ?_
      refine x_b 1 (S2 := (30, [none, some (.ref x1), some (.int x2), some (.int s), some (.int v10)], [.int 0], (mk B), B.kc, B.kn)) rfl ?_
      rw [kr _ (Option.some.inj hr).symm]
      exact x_ret rfl rfl (am_ret_z (by decide))
/-- PebbleProofsLaw$Yard.isConnected()Z -/
def F_307 (B : Wd) (x0 : Nat) : Option (Int32 × Wd) :=
  (B.rc x0 7).bind fun _ =>
  (F_306 B x0).bind fun (a3, B4) =>
  (B4.aR a3 0).bind fun v5 =>
  (B4.ln v5).bind fun v7 =>
  (lw (G_307_12 B4 v5 v7) 200000 0).bind fun r =>
    match r with
    | .inr r15 => some r15
    | .inl _ =>
      some (1, B4)
set_option maxRecDepth 200000 in
theorem f_307 {d : Nat} (hd : 2 ≤ d) {scr : ASc} {res : ARe} {B : Wd} {x0 : Nat} {o : Int32 × Wd} (hr : F_307 B x0 = some o) (kr : res = (.inl (some (.int o.1)), mk o.2, Wd.kc o.2, Wd.kn o.2)) : Ex d am_M307 scr (0, [some (.ref x0), none, none, none, none], [], (mk B), B.kc, B.kn) res := by
  delta F_307 at hr
  refine x_b 1 (S2 := (1, [some (.ref x0), none, none, none, none], [.ref x0], (mk B), B.kc, B.kn)) rfl ?_
  obtain ⟨uh1, h1, hr⟩ := bd_some hr
  obtain ⟨⟨a3, B4⟩, h2, hr⟩ := bd_some hr
  refine x_cW (m_306 h2) rfl rfl rfl rfl (am_recv_c h1 (.inl rfl)) (by omega) ?_
  refine x_b 1 (S2 := (5, [some (.ref x0), none, none, none, none], [.int 0, .ref a3], (mk B4), B4.kc, B4.kn)) rfl ?_
  obtain ⟨v5, h6, hr⟩ := bd_some hr
  refine x_aR rfl rfl h6 ?_
  refine x_b 2 (S2 := (8, [some (.ref x0), some (.ref v5), none, none, none], [.ref v5], (mk B4), B4.kc, B4.kn)) rfl ?_
  obtain ⟨v7, h8, hr⟩ := bd_some hr
  refine x_ln rfl rfl h8 ?_
  refine x_b 3 (S2 := (12, [some (.ref x0), some (.ref v5), some (.int v7), some (.int 0), none], [], (mk B4), B4.kc, B4.kn)) rfl ?_
  refine x_fg (Lq.n (Lq.s (Lq.s (Lq.s (Lq.s Lq.nil))))) ?_
  obtain ⟨o14, h13, hr⟩ := bd_some hr
  refine x_lw (P := P_307_12 B4 v5 v7) (Q := fun x => match x with | .inl e => Ex d am_M307 scr (PX_307_12 B4 v5 v7 e) res | .inr r => res = (.inl (some (.int r.1)), mk r.2, Wd.kc r.2, Wd.kn r.2)) (fun s o h1 ka kx => g_307_12 hd h1 ka (fun e he => kx (.inl e) he) (fun r he => kx (.inr r) he)) _ 0 _ h13 ?_
  rcases o14 with e | r15
  · show Ex d am_M307 scr (37, [none, none, none, none, none], [], (mk B4), B4.kc, B4.kn) res
    refine x_b 1 (S2 := (38, [none, none, none, none, none], [.int 1], (mk B4), B4.kc, B4.kn)) rfl ?_
    cases hr
    rw [kr]
    exact x_ret rfl rfl (am_ret_z (by decide))
  · cases hr; exact kr
set_option maxRecDepth 200000 in
theorem m_307 {scr : ASc} {B : Wd} {x0 : Nat} {o : Int32 × Wd} (hr : F_307 B x0 = some o) : RnW scr 3 307 [.ref x0] B (.inl (some (.int o.1))) o.2 :=
  x_methW (M := am_M307) rfl (show 1 ≤ 5 by decide) (f_307 (Nat.le_refl _) hr rfl)
/-- PebbleProofsLaw$Yard.plain()LPebbleProofsLaw$Yard; -/
def F_308 (B : Wd) : Option (Nat × Wd) :=
  (B.nO 7).bind fun (a1, B2) =>
  (if a1 < am_SB then some () else none).bind fun _ =>
  (F_302 B2 a1 3).bind fun B7 =>
  (B7.rc a1 7).bind fun _ =>
  (F_304 B7 a1 0 1).bind fun B10 =>
  (B10.rc a1 7).bind fun _ =>
  (F_304 B10 a1 1 2).bind fun B13 =>
  (B13.gR a1 7 2).bind fun v14 =>
  (B13.sI v14 0 4).bind fun B16 =>
  (if a1 < am_SB then some () else none).bind fun _ =>
  some (a1, B16)
set_option maxRecDepth 200000 in
theorem f_308 {d : Nat} (hd : 5 ≤ d) {scr : ASc} {res : ARe} {B : Wd} {o : Nat × Wd} (hr : F_308 B = some o) (kr : res = (.inl (some (.ref o.1)), mk o.2, Wd.kc o.2, Wd.kn o.2)) : Ex d am_M308 scr (0, [none], [], (mk B), B.kc, B.kn) res := by
  delta F_308 at hr
  obtain ⟨⟨a1, B2⟩, h3, hr⟩ := bd_some hr
  refine x_nO rfl rfl h3 ?_
  refine x_b 2 (S2 := (5, [none], [.int 3, .ref a1, .ref a1], (mk B2), B2.kc, B2.kn)) rfl ?_
  obtain ⟨uh5, h5, hr⟩ := bd_some hr
  obtain ⟨h4, -⟩ := itn_some h5
  obtain ⟨B7, h6, hr⟩ := bd_some hr
  refine x_cW (m_302 h6) rfl rfl rfl rfl (am_recv_p h4 (by decide)) (by omega) ?_
  refine x_b 4 (S2 := (12, [some (.ref a1)], [.int 1, .int 0, .ref a1], (mk B7), B7.kc, B7.kn)) rfl ?_
  obtain ⟨uh8, h8, hr⟩ := bd_some hr
  obtain ⟨B10, h9, hr⟩ := bd_some hr
  refine x_cW (m_304 h9) rfl rfl rfl rfl (am_recv_c h8 (.inl rfl)) (by omega) ?_
  refine x_b 3 (S2 := (18, [some (.ref a1)], [.int 2, .int 1, .ref a1], (mk B10), B10.kc, B10.kn)) rfl ?_
  obtain ⟨uh11, h11, hr⟩ := bd_some hr
  obtain ⟨B13, h12, hr⟩ := bd_some hr
  refine x_cW (m_304 h12) rfl rfl rfl rfl (am_recv_c h11 (.inl rfl)) (by omega) ?_
  refine x_b 1 (S2 := (22, [some (.ref a1)], [.ref a1], (mk B13), B13.kc, B13.kn)) rfl ?_
  obtain ⟨v14, h15, hr⟩ := bd_some hr
  refine x_gR rfl rfl h15 ?_
  refine x_b 2 (S2 := (27, [some (.ref a1)], [.int 4, .int 0, .ref v14], (mk B13), B13.kc, B13.kn)) rfl ?_
  obtain ⟨B16, h17, hr⟩ := bd_some hr
  refine x_sI rfl rfl h17 ?_
  refine x_b 1 (S2 := (29, [some (.ref a1)], [.ref a1], (mk B16), B16.kc, B16.kn)) rfl ?_
  obtain ⟨uh19, h19, hr⟩ := bd_some hr
  obtain ⟨h18, -⟩ := itn_some h19
  cases hr
  rw [kr]
  exact x_ret rfl rfl (am_ret_h h18)
set_option maxRecDepth 200000 in
theorem m_308 {scr : ASc} {B : Wd} {o : Nat × Wd} (hr : F_308 B = some o) : RnW scr 6 308 [] B (.inl (some (.ref o.1))) o.2 :=
  x_methW (M := am_M308) rfl (show 0 ≤ 1 by decide) (f_308 (Nat.le_refl _) hr rfl)
abbrev P_309_24 (L : Nat) (xs : Nat → Int32) (x1 : Int32) (x2 : Nat) (s : Int32 × Wd) : ASt := (24, [some (.ref am_SB), some (.int x1), some (.ref x2), some (.int s.1), none, none, none, none], [], (mk s.2), Wd.kc s.2, Wd.kn s.2)
abbrev PX_309_24 (L : Nat) (xs : Nat → Int32) (x1 : Int32) (x2 : Nat) (s : Wd) : ASt := (61, [some (.ref am_SB), some (.int x1), some (.ref x2), none, none, none, none, none], [], (mk s), Wd.kc s, Wd.kn s)
def J_309_24_j52 (L : Nat) (xs : Nat → Int32) (B : Wd) (x1 : Int32) (x2 : Nat) (x3 : Int32) (t0 : Int32) (t1 : Int32) (t2 : Nat) : Option ((Int32 × Wd) ⊕ (Wd)) :=
  (B.rc t2 7).bind fun _ =>
  (F_304 B t2 t1 t0).bind fun B18 =>
  some (.inl ((x3 + 1), B18))
set_option maxRecDepth 200000 in
theorem j_309_24_j52 {d : Nat} (hd : 6 ≤ d) {L : Nat} {xs : Nat → Int32} {res : ARe} {B : Wd} {x1 : Int32} {x2 : Nat} {x3 : Int32} {t0 : Int32} {t1 : Int32} {t2 : Nat} {o : (Int32 × Wd) ⊕ (Wd)} (hr : J_309_24_j52 L xs B x1 x2 x3 t0 t1 t2 = some o) (ka : ∀ s, o = .inl s → Ex d am_M309 (some (L, xs)) (P_309_24 L xs x1 x2 s) res) (kx : ∀ s, o = .inr s → Ex d am_M309 (some (L, xs)) (PX_309_24 L xs x1 x2 s) res) : Ex d am_M309 (some (L, xs)) (52, [some (.ref am_SB), some (.int x1), some (.ref x2), some (.int x3), none, none, none, none], [.int t0, .int t1, .ref t2], (mk B), B.kc, B.kn) res := by
  delta J_309_24_j52 at hr
  obtain ⟨uh16, h16, hr⟩ := bd_some hr
  obtain ⟨B18, h17, hr⟩ := bd_some hr
  refine x_cW (m_304 h17) rfl rfl rfl rfl (am_recv_c h16 (.inl rfl)) (by omega) ?_
  refine x_b 2 (S2 := (24, [some (.ref am_SB), some (.int x1), some (.ref x2), some (.int (x3 + 1)), none, none, none, none], [], (mk B18), B18.kc, B18.kn)) rfl ?_
  refine x_fg (Lq.s (Lq.s (Lq.s (Lq.s (Lq.s (Lq.s (Lq.s (Lq.s Lq.nil)))))))) ?_
  exact ka ((x3 + 1), B18) (Option.some.inj hr).symm
def G_309_24 (L : Nat) (xs : Nat → Int32) (x1 : Int32) (x2 : Nat) (s : Int32 × Wd) : Option ((Int32 × Wd) ⊕ (Wd)) := 
  match s with
  | (x3, B) =>
    (B.gI x2 7 0).bind fun v10 =>
    if v10 ≤ x3 then
      some (.inr B)
    else
      if ¬ (x1 - x1 / 3 * 3) = 0 then
        (F_366 L xs B x3 x3).bind fun v15 =>
        J_309_24_j52 L xs B x1 x2 x3 v15 x3 x2
      else
        J_309_24_j52 L xs B x1 x2 x3 (x3 - 1) x3 x2
set_option maxRecDepth 200000 in
theorem g_309_24 {d : Nat} (hd : 6 ≤ d) {L : Nat} {xs : Nat → Int32} {res : ARe} {x1 : Int32} {x2 : Nat} {s : Int32 × Wd} {o : (Int32 × Wd) ⊕ (Wd)} (hr : G_309_24 L xs x1 x2 s = some o) (ka : ∀ s, o = .inl s → Ex d am_M309 (some (L, xs)) (P_309_24 L xs x1 x2 s) res) (kx : ∀ s, o = .inr s → Ex d am_M309 (some (L, xs)) (PX_309_24 L xs x1 x2 s) res) : Ex d am_M309 (some (L, xs)) (P_309_24 L xs x1 x2 s) res := by
  obtain ⟨x3, B⟩ := s
  delta G_309_24 at hr
  show Ex d am_M309 (some (L, xs)) (24, [some (.ref am_SB), some (.int x1), some (.ref x2), some (.int x3), none, none, none, none], [], (mk B), B.kc, B.kn) res
  refine x_b 2 (S2 := (26, [some (.ref am_SB), some (.int x1), some (.ref x2), some (.int x3), none, none, none, none], [.ref x2, .int x3], (mk B), B.kc, B.kn)) rfl ?_
  obtain ⟨v10, h11, hr⟩ := bd_some hr
  refine x_gI rfl rfl h11 ?_
  rcases ite_some hr with ⟨h12, hr⟩ | ⟨h12, hr⟩
  · refine x_ct rfl rfl (decide_eq_true h12) ?_
    refine x_fg (Lq.s (Lq.s (Lq.s (Lq.n (Lq.s (Lq.s (Lq.s (Lq.s Lq.nil)))))))) ?_
    exact kx B (Option.some.inj hr).symm
  · refine x_cf rfl rfl (decide_eq_false h12) ?_
    refine x_b 4 (S2 := (36, [some (.ref am_SB), some (.int x1), some (.ref x2), some (.int x3), none, none, none, none], [.int 3, .int x1, .int x3, .ref x2], (mk B), B.kc, B.kn)) rfl ?_
    refine x_rem rfl rfl (by decide) ?_
    rcases ite_some hr with ⟨h13, hr⟩ | ⟨h13, hr⟩
    · refine x_zt rfl rfl (decide_eq_true h13) ?_
      refine x_b 3 (S2 := (49, [some (.ref am_SB), some (.int x1), some (.ref x2), some (.int x3), none, none, none, none], [.int x3, .int x3, .ref am_SB, .int x3, .ref x2], (mk B), B.kc, B.kn)) rfl ?_
      obtain ⟨v15, h14, hr⟩ := bd_some hr
      refine x_cW (m_366 h14) rfl rfl rfl rfl rfl (by omega) ?_
      refine x_fg (Lq.s (Lq.s (Lq.s (Lq.s (Lq.s (Lq.s (Lq.s (Lq.s Lq.nil)))))))) ?_
      exact j_309_24_j52 hd hr ka kx
    · refine x_zf rfl rfl (decide_eq_false h13) ?_
      refine x_b 4 (S2 := (52, [some (.ref am_SB), some (.int x1), some (.ref x2), some (.int x3), none, none, none, none], [.int (x3 - 1), .int x3, .ref x2], (mk B), B.kc, B.kn)) rfl ?_
      refine x_fg (Lq.s (Lq.s (Lq.s (Lq.s (Lq.s (Lq.s (Lq.s (Lq.s Lq.nil)))))))) ?_
      exact j_309_24_j52 hd hr ka kx
abbrev P_309_63 (L : Nat) (xs : Nat → Int32) (x1 : Int32) (x2 : Nat) (s : Int32 × Wd) : ASt := (63, [some (.ref am_SB), some (.int x1), some (.ref x2), some (.int s.1), none, none, none, none], [], (mk s.2), Wd.kc s.2, Wd.kn s.2)
abbrev PX_309_63 (L : Nat) (xs : Nat → Int32) (x1 : Int32) (x2 : Nat) (s : Wd) : ASt := (151, [some (.ref am_SB), some (.int x1), some (.ref x2), none, none, none, none, none], [], (mk s), Wd.kc s, Wd.kn s)
abbrev P_309_74 (L : Nat) (xs : Nat → Int32) (x1 : Int32) (x2 : Nat) (x3 : Int32) (s : Int32 × Wd) : ASt := (74, [some (.ref am_SB), some (.int x1), some (.ref x2), some (.int x3), some (.int s.1), none, none, none], [], (mk s.2), Wd.kc s.2, Wd.kn s.2)
abbrev PX_309_74 (L : Nat) (xs : Nat → Int32) (x1 : Int32) (x2 : Nat) (x3 : Int32) (s : Wd) : ASt := (145, [some (.ref am_SB), some (.int x1), some (.ref x2), some (.int x3), none, none, none, none], [], (mk s), Wd.kc s, Wd.kn s)
def J_309_74_j139 (L : Nat) (xs : Nat → Int32) (B : Wd) (x1 : Int32) (x2 : Nat) (x3 : Int32) (x4 : Int32) : Option ((Int32 × Wd) ⊕ (Wd)) :=
  some (.inl ((x4 + 1), B))
set_option maxRecDepth 200000 in
theorem j_309_74_j139 {d : Nat} (hd : 6 ≤ d) {L : Nat} {xs : Nat → Int32} {res : ARe} {B : Wd} {x1 : Int32} {x2 : Nat} {x3 : Int32} {x4 : Int32} {o : (Int32 × Wd) ⊕ (Wd)} (hr : J_309_74_j139 L xs B x1 x2 x3 x4 = some o) (ka : ∀ s, o = .inl s → Ex d am_M309 (some (L, xs)) (P_309_74 L xs x1 x2 x3 s) res) (kx : ∀ s, o = .inr s → Ex d am_M309 (some (L, xs)) (PX_309_74 L xs x1 x2 x3 s) res) : Ex d am_M309 (some (L, xs)) (139, [some (.ref am_SB), some (.int x1), some (.ref x2), some (.int x3), some (.int x4), none, none, none], [], (mk B), B.kc, B.kn) res := by
  delta J_309_74_j139 at hr
  refine x_b 2 (S2 := (74, [some (.ref am_SB), some (.int x1), some (.ref x2), some (.int x3), some (.int (x4 + 1)), none, none, none], [], (mk B), B.kc, B.kn)) rfl ?_
  refine x_fg (Lq.s (Lq.s (Lq.s (Lq.s (Lq.s (Lq.s (Lq.s (Lq.s Lq.nil)))))))) ?_
  exact ka ((x4 + 1), B) (Option.some.inj hr).symm
def J_309_74_j115 (L : Nat) (xs : Nat → Int32) (B : Wd) (x1 : Int32) (x2 : Nat) (x3 : Int32) (x4 : Int32) : Option ((Int32 × Wd) ⊕ (Wd)) :=
  (F_366 L xs B ((7 + (2 * x3)) + x4) 3).bind fun v37 =>
  if ¬ v37 = 0 then
    J_309_74_j139 L xs B x1 x2 x3 x4
  else
    (B.rc x2 7).bind fun _ =>
    (F_304 B x2 x3 x4).bind fun B41 =>
    J_309_74_j139 L xs B41 x1 x2 x3 x4
set_option maxRecDepth 200000 in
theorem j_309_74_j115 {d : Nat} (hd : 6 ≤ d) {L : Nat} {xs : Nat → Int32} {res : ARe} {B : Wd} {x1 : Int32} {x2 : Nat} {x3 : Int32} {x4 : Int32} {o : (Int32 × Wd) ⊕ (Wd)} (hr : J_309_74_j115 L xs B x1 x2 x3 x4 = some o) (ka : ∀ s, o = .inl s → Ex d am_M309 (some (L, xs)) (P_309_74 L xs x1 x2 x3 s) res) (kx : ∀ s, o = .inr s → Ex d am_M309 (some (L, xs)) (PX_309_74 L xs x1 x2 x3 s) res) : Ex d am_M309 (some (L, xs)) (115, [some (.ref am_SB), some (.int x1), some (.ref x2), some (.int x3), some (.int x4), none, none, none], [], (mk B), B.kc, B.kn) res := by
  delta J_309_74_j115 at hr
  refine x_b 9 (S2 := (126, [some (.ref am_SB), some (.int x1), some (.ref x2), some (.int x3), some (.int x4), none, none, none], [.int 3, .int ((7 + (2 * x3)) + x4), .ref am_SB], (mk B), B.kc, B.kn)) rfl ?_
  obtain ⟨v37, h36, hr⟩ := bd_some hr
  refine x_cW (m_366 h36) rfl rfl rfl rfl rfl (by omega) ?_
  rcases ite_some hr with ⟨h38, hr⟩ | ⟨h38, hr⟩
  · refine x_zt rfl rfl (decide_eq_true h38) ?_
    refine x_fg (Lq.s (Lq.s (Lq.s (Lq.s (Lq.s (Lq.s (Lq.s (Lq.s Lq.nil)))))))) ?_
    exact j_309_74_j139 hd hr ka kx
  · refine x_zf rfl rfl (decide_eq_false h38) ?_
    refine x_b 3 (S2 := (136, [some (.ref am_SB), some (.int x1), some (.ref x2), some (.int x3), some (.int x4), none, none, none], [.int x4, .int x3, .ref x2], (mk B), B.kc, B.kn)) rfl ?_
    obtain ⟨uh39, h39, hr⟩ := bd_some hr
    obtain ⟨B41, h40, hr⟩ := bd_some hr
    refine x_cW (m_304 h40) rfl rfl rfl rfl (am_recv_c h39 (.inl rfl)) (by omega) ?_
    refine x_fg (Lq.s (Lq.s (Lq.s (Lq.s (Lq.s (Lq.s (Lq.s (Lq.s Lq.nil)))))))) ?_
    exact j_309_74_j139 hd hr ka kx
def G_309_74 (L : Nat) (xs : Nat → Int32) (x1 : Int32) (x2 : Nat) (x3 : Int32) (s : Int32 × Wd) : Option ((Int32 × Wd) ⊕ (Wd)) := 
  match s with
  | (x4, B) =>
    if x3 ≤ x4 then
      some (.inr B)
    else
      (B.gR x2 7 1).bind fun v26 =>
      (B.aR v26 x3).bind fun v28 =>
      (B.aB v28 x4).bind fun v30 =>
      if ¬ v30 = 0 then
        J_309_74_j139 L xs B x1 x2 x3 x4
      else
        (B.gI x2 7 0).bind fun v33 =>
        if 5 < v33 then
          J_309_74_j115 L xs B x1 x2 x3 x4
        else
          (F_366 L xs B ((6 + x3) + x4) 4).bind fun v43 =>
          if ¬ v43 = 0 then
            J_309_74_j139 L xs B x1 x2 x3 x4
          else
            J_309_74_j115 L xs B x1 x2 x3 x4
set_option maxRecDepth 200000 in
theorem g_309_74 {d : Nat} (hd : 6 ≤ d) {L : Nat} {xs : Nat → Int32} {res : ARe} {x1 : Int32} {x2 : Nat} {x3 : Int32} {s : Int32 × Wd} {o : (Int32 × Wd) ⊕ (Wd)} (hr : G_309_74 L xs x1 x2 x3 s = some o) (ka : ∀ s, o = .inl s → Ex d am_M309 (some (L, xs)) (P_309_74 L xs x1 x2 x3 s) res) (kx : ∀ s, o = .inr s → Ex d am_M309 (some (L, xs)) (PX_309_74 L xs x1 x2 x3 s) res) : Ex d am_M309 (some (L, xs)) (P_309_74 L xs x1 x2 x3 s) res := by
  obtain ⟨x4, B⟩ := s
  delta G_309_74 at hr
  show Ex d am_M309 (some (L, xs)) (74, [some (.ref am_SB), some (.int x1), some (.ref x2), some (.int x3), some (.int x4), none, none, none], [], (mk B), B.kc, B.kn) res
  refine x_b 2 (S2 := (77, [some (.ref am_SB), some (.int x1), some (.ref x2), some (.int x3), some (.int x4), none, none, none], [.int x3, .int x4], (mk B), B.kc, B.kn)) rfl ?_
  rcases ite_some hr with ⟨h25, hr⟩ | ⟨h25, hr⟩
  · refine x_ct rfl rfl (decide_eq_true h25) ?_
    refine x_fg (Lq.s (Lq.s (Lq.s (Lq.s (Lq.n (Lq.s (Lq.s (Lq.s Lq.nil)))))))) ?_
    exact kx B (Option.some.inj hr).symm
  · refine x_cf rfl rfl (decide_eq_false h25) ?_
    refine x_b 1 (S2 := (81, [some (.ref am_SB), some (.int x1), some (.ref x2), some (.int x3), some (.int x4), none, none, none], [.ref x2], (mk B), B.kc, B.kn)) rfl ?_
    obtain ⟨v26, h27, hr⟩ := bd_some hr
    refine x_gR rfl rfl h27 ?_
    refine x_b 1 (S2 := (85, [some (.ref am_SB), some (.int x1), some (.ref x2), some (.int x3), some (.int x4), none, none, none], [.int x3, .ref v26], (mk B), B.kc, B.kn)) rfl ?_
    obtain ⟨v28, h29, hr⟩ := bd_some hr
    refine x_aR rfl rfl h29 ?_
    refine x_b 1 (S2 := (88, [some (.ref am_SB), some (.int x1), some (.ref x2), some (.int x3), some (.int x4), none, none, none], [.int x4, .ref v28], (mk B), B.kc, B.kn)) rfl ?_
    obtain ⟨v30, h31, hr⟩ := bd_some hr
    refine x_aB rfl rfl h31 ?_
    rcases ite_some hr with ⟨h32, hr⟩ | ⟨h32, hr⟩
    · refine x_zt rfl rfl (decide_eq_true h32) ?_
      refine x_fg (Lq.s (Lq.s (Lq.s (Lq.s (Lq.s (Lq.s (Lq.s (Lq.s Lq.nil)))))))) ?_
      exact j_309_74_j139 hd hr ka kx
    · refine x_zf rfl rfl (decide_eq_false h32) ?_
      refine x_b 1 (S2 := (93, [some (.ref am_SB), some (.int x1), some (.ref x2), some (.int x3), some (.int x4), none, none, none], [.ref x2], (mk B), B.kc, B.kn)) rfl ?_
      obtain ⟨v33, h34, hr⟩ := bd_some hr
      refine x_gI rfl rfl h34 ?_
      refine x_b 1 (S2 := (97, [some (.ref am_SB), some (.int x1), some (.ref x2), some (.int x3), some (.int x4), none, none, none], [.int 5, .int v33], (mk B), B.kc, B.kn)) rfl ?_
      rcases ite_some hr with ⟨h35, hr⟩ | ⟨h35, hr⟩
      · refine x_ct rfl rfl (decide_eq_true h35) ?_
        refine x_fg (Lq.s (Lq.s (Lq.s (Lq.s (Lq.s (Lq.s (Lq.s (Lq.s Lq.nil)))))))) ?_
        exact j_309_74_j115 hd hr ka kx
      · refine x_cf rfl rfl (decide_eq_false h35) ?_
        refine x_b 7 (S2 := (109, [some (.ref am_SB), some (.int x1), some (.ref x2), some (.int x3), some (.int x4), none, none, none], [.int 4, .int ((6 + x3) + x4), .ref am_SB], (mk B), B.kc, B.kn)) rfl ?_
        obtain ⟨v43, h42, hr⟩ := bd_some hr
        refine x_cW (m_366 h42) rfl rfl rfl rfl rfl (by omega) ?_
        rcases ite_some hr with ⟨h44, hr⟩ | ⟨h44, hr⟩
        · refine x_zt rfl rfl (decide_eq_true h44) ?_
          refine x_fg (Lq.s (Lq.s (Lq.s (Lq.s (Lq.s (Lq.s (Lq.s (Lq.s Lq.nil)))))))) ?_
          exact j_309_74_j139 hd hr ka kx
        · refine x_zf rfl rfl (decide_eq_false h44) ?_
          refine x_fg (Lq.s (Lq.s (Lq.s (Lq.s (Lq.s (Lq.s (Lq.s (Lq.s Lq.nil)))))))) ?_
          exact j_309_74_j115 hd hr ka kx
def G_309_63 (L : Nat) (xs : Nat → Int32) (x1 : Int32) (x2 : Nat) (s : Int32 × Wd) : Option ((Int32 × Wd) ⊕ (Wd)) := 
  match s with
  | (x3, B) =>
    (B.gI x2 7 0).bind fun v22 =>
    if v22 ≤ x3 then
      some (.inr B)
    else
      (lw (G_309_74 L xs x1 x2 x3) 200000 (0, B)).bind fun B46 =>
      some (.inl ((x3 + 1), B46))
set_option maxRecDepth 200000 in
theorem g_309_63 {d : Nat} (hd : 6 ≤ d) {L : Nat} {xs : Nat → Int32} {res : ARe} {x1 : Int32} {x2 : Nat} {s : Int32 × Wd} {o : (Int32 × Wd) ⊕ (Wd)} (hr : G_309_63 L xs x1 x2 s = some o) (ka : ∀ s, o = .inl s → Ex d am_M309 (some (L, xs)) (P_309_63 L xs x1 x2 s) res) (kx : ∀ s, o = .inr s → Ex d am_M309 (some (L, xs)) (PX_309_63 L xs x1 x2 s) res) : Ex d am_M309 (some (L, xs)) (P_309_63 L xs x1 x2 s) res := by
  obtain ⟨x3, B⟩ := s
  delta G_309_63 at hr
  show Ex d am_M309 (some (L, xs)) (63, [some (.ref am_SB), some (.int x1), some (.ref x2), some (.int x3), none, none, none, none], [], (mk B), B.kc, B.kn) res
  refine x_b 2 (S2 := (65, [some (.ref am_SB), some (.int x1), some (.ref x2), some (.int x3), none, none, none, none], [.ref x2, .int x3], (mk B), B.kc, B.kn)) rfl ?_
  obtain ⟨v22, h23, hr⟩ := bd_some hr
  refine x_gI rfl rfl h23 ?_
  rcases ite_some hr with ⟨h24, hr⟩ | ⟨h24, hr⟩
  · refine x_ct rfl rfl (decide_eq_true h24) ?_
    refine x_fg (Lq.s (Lq.s (Lq.s (Lq.n (Lq.s (Lq.s (Lq.s (Lq.s Lq.nil)))))))) ?_
    exact kx B (Option.some.inj hr).symm
  · refine x_cf rfl rfl (decide_eq_false h24) ?_
    refine x_b 2 (S2 := (74, [some (.ref am_SB), some (.int x1), some (.ref x2), some (.int x3), some (.int 0), none, none, none], [], (mk B), B.kc, B.kn)) rfl ?_
    refine x_fg (Lq.s (Lq.s (Lq.s (Lq.s (Lq.s (Lq.s (Lq.s (Lq.s Lq.nil)))))))) ?_
    obtain ⟨B46, h45, hr⟩ := bd_some hr
    refine x_lw (P := P_309_74 L xs x1 x2 x3) (Q := fun x => Ex d am_M309 (some (L, xs)) (PX_309_74 L xs x1 x2 x3 x) res) (fun s o h1 ka kx => g_309_74 hd h1 ka kx) _ (0, B) _ h45 ?_
    show Ex d am_M309 (some (L, xs)) (145, [some (.ref am_SB), some (.int x1), some (.ref x2), some (.int x3), none, none, none, none], [], (mk B46), B46.kc, B46.kn) res
    refine x_b 2 (S2 := (63, [some (.ref am_SB), some (.int x1), some (.ref x2), some (.int (x3 + 1)), none, none, none, none], [], (mk B46), B46.kc, B46.kn)) rfl ?_
    refine x_fg (Lq.s (Lq.s (Lq.s (Lq.s (Lq.s (Lq.s (Lq.s (Lq.s Lq.nil)))))))) ?_
    exact ka ((x3 + 1), B46) (Option.some.inj hr).symm
abbrev P_309_153 (L : Nat) (xs : Nat → Int32) (x1 : Int32) (x2 : Nat) (s : Int32 × Wd) : ASt := (153, [some (.ref am_SB), some (.int x1), some (.ref x2), some (.int s.1), none, none, none, none], [], (mk s.2), Wd.kc s.2, Wd.kn s.2)
abbrev PX_309_153 (L : Nat) (xs : Nat → Int32) (x1 : Int32) (x2 : Nat) (s : Wd) : ASt := (193, [some (.ref am_SB), some (.int x1), some (.ref x2), none, none, none, none, none], [], (mk s), Wd.kc s, Wd.kn s)
def J_309_153_j183 (L : Nat) (xs : Nat → Int32) (B : Wd) (x1 : Int32) (x2 : Nat) (x3 : Int32) (t0 : Int32) (t1 : Int32) (t3 : Int32) (t4 : Nat) : Option ((Int32 × Wd) ⊕ (Wd)) :=
  (F_366 L xs B t1 t0).bind fun v58 =>
  (B.sI t4 t3 v58).bind fun B59 =>
  some (.inl ((x3 + 1), B59))
set_option maxRecDepth 200000 in
theorem j_309_153_j183 {d : Nat} (hd : 6 ≤ d) {L : Nat} {xs : Nat → Int32} {res : ARe} {B : Wd} {x1 : Int32} {x2 : Nat} {x3 : Int32} {t0 : Int32} {t1 : Int32} {t3 : Int32} {t4 : Nat} {o : (Int32 × Wd) ⊕ (Wd)} (hr : J_309_153_j183 L xs B x1 x2 x3 t0 t1 t3 t4 = some o) (ka : ∀ s, o = .inl s → Ex d am_M309 (some (L, xs)) (P_309_153 L xs x1 x2 s) res) (kx : ∀ s, o = .inr s → Ex d am_M309 (some (L, xs)) (PX_309_153 L xs x1 x2 s) res) : Ex d am_M309 (some (L, xs)) (183, [some (.ref am_SB), some (.int x1), some (.ref x2), some (.int x3), none, none, none, none], [.int t0, .int t1, .ref am_SB, .int t3, .ref t4], (mk B), B.kc, B.kn) res := by
  delta J_309_153_j183 at hr
  obtain ⟨v58, h57, hr⟩ := bd_some hr
  refine x_cW (m_366 h57) rfl rfl rfl rfl rfl (by omega) ?_
  obtain ⟨B59, h60, hr⟩ := bd_some hr
  refine x_sI rfl rfl h60 ?_
  refine x_b 2 (S2 := (153, [some (.ref am_SB), some (.int x1), some (.ref x2), some (.int (x3 + 1)), none, none, none, none], [], (mk B59), B59.kc, B59.kn)) rfl ?_
  refine x_fg (Lq.s (Lq.s (Lq.s (Lq.s (Lq.s (Lq.s (Lq.s (Lq.s Lq.nil)))))))) ?_
  exact ka ((x3 + 1), B59) (Option.some.inj hr).symm
def G_309_153 (L : Nat) (xs : Nat → Int32) (x1 : Int32) (x2 : Nat) (s : Int32 × Wd) : Option ((Int32 × Wd) ⊕ (Wd)) := 
  match s with
  | (x3, B) =>
    (B.gI x2 7 0).bind fun v51 =>
    if v51 ≤ x3 then
      some (.inr B)
    else
      (B.gR x2 7 2).bind fun v54 =>
      if ¬ (x3 - x3 / 3 * 3) = 0 then
        J_309_153_j183 L xs B x1 x2 x3 4 (18 + x3) x3 v54
      else
        J_309_153_j183 L xs B x1 x2 x3 9 (18 + x3) x3 v54
set_option maxRecDepth 200000 in
theorem g_309_153 {d : Nat} (hd : 6 ≤ d) {L : Nat} {xs : Nat → Int32} {res : ARe} {x1 : Int32} {x2 : Nat} {s : Int32 × Wd} {o : (Int32 × Wd) ⊕ (Wd)} (hr : G_309_153 L xs x1 x2 s = some o) (ka : ∀ s, o = .inl s → Ex d am_M309 (some (L, xs)) (P_309_153 L xs x1 x2 s) res) (kx : ∀ s, o = .inr s → Ex d am_M309 (some (L, xs)) (PX_309_153 L xs x1 x2 s) res) : Ex d am_M309 (some (L, xs)) (P_309_153 L xs x1 x2 s) res := by
  obtain ⟨x3, B⟩ := s
  delta G_309_153 at hr
  show Ex d am_M309 (some (L, xs)) (153, [some (.ref am_SB), some (.int x1), some (.ref x2), some (.int x3), none, none, none, none], [], (mk B), B.kc, B.kn) res
  refine x_b 2 (S2 := (155, [some (.ref am_SB), some (.int x1), some (.ref x2), some (.int x3), none, none, none, none], [.ref x2, .int x3], (mk B), B.kc, B.kn)) rfl ?_
  obtain ⟨v51, h52, hr⟩ := bd_some hr
  refine x_gI rfl rfl h52 ?_
  rcases ite_some hr with ⟨h53, hr⟩ | ⟨h53, hr⟩
  · refine x_ct rfl rfl (decide_eq_true h53) ?_
    refine x_fg (Lq.s (Lq.s (Lq.s (Lq.n (Lq.s (Lq.s (Lq.s (Lq.s Lq.nil)))))))) ?_
    exact kx B (Option.some.inj hr).symm
  · refine x_cf rfl rfl (decide_eq_false h53) ?_
    refine x_b 1 (S2 := (162, [some (.ref am_SB), some (.int x1), some (.ref x2), some (.int x3), none, none, none, none], [.ref x2], (mk B), B.kc, B.kn)) rfl ?_
    obtain ⟨v54, h55, hr⟩ := bd_some hr
    refine x_gR rfl rfl h55 ?_
    refine x_b 7 (S2 := (173, [some (.ref am_SB), some (.int x1), some (.ref x2), some (.int x3), none, none, none, none], [.int 3, .int x3, .int (18 + x3), .ref am_SB, .int x3, .ref v54], (mk B), B.kc, B.kn)) rfl ?_
    refine x_rem rfl rfl (by decide) ?_
    rcases ite_some hr with ⟨h56, hr⟩ | ⟨h56, hr⟩
    · refine x_zt rfl rfl (decide_eq_true h56) ?_
      refine x_b 1 (S2 := (183, [some (.ref am_SB), some (.int x1), some (.ref x2), some (.int x3), none, none, none, none], [.int 4, .int (18 + x3), .ref am_SB, .int x3, .ref v54], (mk B), B.kc, B.kn)) rfl ?_
      refine x_fg (Lq.s (Lq.s (Lq.s (Lq.s (Lq.s (Lq.s (Lq.s (Lq.s Lq.nil)))))))) ?_
      exact j_309_153_j183 hd hr ka kx
    · refine x_zf rfl rfl (decide_eq_false h56) ?_
      refine x_b 2 (S2 := (183, [some (.ref am_SB), some (.int x1), some (.ref x2), some (.int x3), none, none, none, none], [.int 9, .int (18 + x3), .ref am_SB, .int x3, .ref v54], (mk B), B.kc, B.kn)) rfl ?_
      refine x_fg (Lq.s (Lq.s (Lq.s (Lq.s (Lq.s (Lq.s (Lq.s (Lq.s Lq.nil)))))))) ?_
      exact j_309_153_j183 hd hr ka kx
abbrev P_309_195 (L : Nat) (xs : Nat → Int32) (x1 : Int32) (x2 : Nat) (s : Int32 × Wd) : ASt := (195, [some (.ref am_SB), some (.int x1), some (.ref x2), some (.int s.1), none, none, none, none], [], (mk s.2), Wd.kc s.2, Wd.kn s.2)
abbrev PX_309_195 (L : Nat) (xs : Nat → Int32) (x1 : Int32) (x2 : Nat) (s : Wd) : ASt := (397, [none, none, some (.ref x2), none, none, none, none, none], [], (mk s), Wd.kc s, Wd.kn s)
abbrev P_309_234 (L : Nat) (xs : Nat → Int32) (x1 : Int32) (x2 : Nat) (x3 : Int32) (x4 : Int32) (x5 : Nat) (s : Int32 × Wd) : ASt := (234, [some (.ref am_SB), some (.int x1), some (.ref x2), some (.int x3), some (.int x4), some (.ref x5), some (.int s.1), none], [], (mk s.2), Wd.kc s.2, Wd.kn s.2)
abbrev PX_309_234 (L : Nat) (xs : Nat → Int32) (x1 : Int32) (x2 : Nat) (x3 : Int32) (x4 : Int32) (x5 : Nat) (s : Wd) : ASt := (256, [some (.ref am_SB), some (.int x1), some (.ref x2), some (.int x3), some (.int x4), some (.ref x5), none, none], [], (mk s), Wd.kc s, Wd.kn s)
def G_309_234 (L : Nat) (xs : Nat → Int32) (x1 : Int32) (x2 : Nat) (x3 : Int32) (x4 : Int32) (x5 : Nat) (s : Int32 × Wd) : Option ((Int32 × Wd) ⊕ (Wd)) := 
  match s with
  | (x6, B) =>
    if 6 ≤ x6 then
      some (.inr B)
    else
      (B.sI x5 (7 + x6) (-1)).bind fun B75 =>
      some (.inl ((x6 + 1), B75))
set_option maxRecDepth 200000 in
theorem g_309_234 {d : Nat} (hd : 6 ≤ d) {L : Nat} {xs : Nat → Int32} {res : ARe} {x1 : Int32} {x2 : Nat} {x3 : Int32} {x4 : Int32} {x5 : Nat} {s : Int32 × Wd} {o : (Int32 × Wd) ⊕ (Wd)} (hr : G_309_234 L xs x1 x2 x3 x4 x5 s = some o) (ka : ∀ s, o = .inl s → Ex d am_M309 (some (L, xs)) (P_309_234 L xs x1 x2 x3 x4 x5 s) res) (kx : ∀ s, o = .inr s → Ex d am_M309 (some (L, xs)) (PX_309_234 L xs x1 x2 x3 x4 x5 s) res) : Ex d am_M309 (some (L, xs)) (P_309_234 L xs x1 x2 x3 x4 x5 s) res := by
  obtain ⟨x6, B⟩ := s
  delta G_309_234 at hr
  show Ex d am_M309 (some (L, xs)) (234, [some (.ref am_SB), some (.int x1), some (.ref x2), some (.int x3), some (.int x4), some (.ref x5), some (.int x6), none], [], (mk B), B.kc, B.kn) res
  refine x_b 2 (S2 := (238, [some (.ref am_SB), some (.int x1), some (.ref x2), some (.int x3), some (.int x4), some (.ref x5), some (.int x6), none], [.int 6, .int x6], (mk B), B.kc, B.kn)) rfl ?_
  rcases ite_some hr with ⟨h74, hr⟩ | ⟨h74, hr⟩
  · refine x_ct rfl rfl (decide_eq_true h74) ?_
    refine x_fg (Lq.s (Lq.s (Lq.s (Lq.s (Lq.s (Lq.s (Lq.n (Lq.s Lq.nil)))))))) ?_
    exact kx B (Option.some.inj hr).symm
  · refine x_cf rfl rfl (decide_eq_false h74) ?_
    refine x_b 5 (S2 := (249, [some (.ref am_SB), some (.int x1), some (.ref x2), some (.int x3), some (.int x4), some (.ref x5), some (.int x6), none], [.int (-1), .int (7 + x6), .ref x5], (mk B), B.kc, B.kn)) rfl ?_
    obtain ⟨B75, h76, hr⟩ := bd_some hr
    refine x_sI rfl rfl h76 ?_
    refine x_b 2 (S2 := (234, [some (.ref am_SB), some (.int x1), some (.ref x2), some (.int x3), some (.int x4), some (.ref x5), some (.int (x6 + 1)), none], [], (mk B75), B75.kc, B75.kn)) rfl ?_
    refine x_fg (Lq.s (Lq.s (Lq.s (Lq.s (Lq.s (Lq.s (Lq.s (Lq.s Lq.nil)))))))) ?_
    exact ka ((x6 + 1), B75) (Option.some.inj hr).symm
abbrev P_309_259 (L : Nat) (xs : Nat → Int32) (x1 : Int32) (x2 : Nat) (x3 : Int32) (x4 : Int32) (x5 : Nat) (s : Int32 × Wd) : ASt := (259, [some (.ref am_SB), some (.int x1), some (.ref x2), some (.int x3), some (.int x4), some (.ref x5), some (.int s.1), none], [], (mk s.2), Wd.kc s.2, Wd.kn s.2)
abbrev PX_309_259 (L : Nat) (xs : Nat → Int32) (x1 : Int32) (x2 : Nat) (x3 : Int32) (x4 : Int32) (x5 : Nat) (s : Wd) : ASt := (381, [some (.ref am_SB), some (.int x1), some (.ref x2), some (.int x3), none, some (.ref x5), none, none], [], (mk s), Wd.kc s, Wd.kn s)
def J_309_259_j375 (L : Nat) (xs : Nat → Int32) (B : Wd) (x1 : Int32) (x2 : Nat) (x3 : Int32) (x4 : Int32) (x5 : Nat) (x6 : Int32) : Option ((Int32 × Wd) ⊕ (Wd)) :=
  some (.inl ((x6 + 1), B))
set_option maxRecDepth 200000 in
theorem j_309_259_j375 {d : Nat} (hd : 6 ≤ d) {L : Nat} {xs : Nat → Int32} {res : ARe} {B : Wd} {x1 : Int32} {x2 : Nat} {x3 : Int32} {x4 : Int32} {x5 : Nat} {x6 : Int32} {o : (Int32 × Wd) ⊕ (Wd)} (hr : J_309_259_j375 L xs B x1 x2 x3 x4 x5 x6 = some o) (ka : ∀ s, o = .inl s → Ex d am_M309 (some (L, xs)) (P_309_259 L xs x1 x2 x3 x4 x5 s) res) (kx : ∀ s, o = .inr s → Ex d am_M309 (some (L, xs)) (PX_309_259 L xs x1 x2 x3 x4 x5 s) res) : Ex d am_M309 (some (L, xs)) (375, [some (.ref am_SB), some (.int x1), some (.ref x2), some (.int x3), some (.int x4), some (.ref x5), some (.int x6), none], [], (mk B), B.kc, B.kn) res := by
  delta J_309_259_j375 at hr
  refine x_b 2 (S2 := (259, [some (.ref am_SB), some (.int x1), some (.ref x2), some (.int x3), some (.int x4), some (.ref x5), some (.int (x6 + 1)), none], [], (mk B), B.kc, B.kn)) rfl ?_
  refine x_fg (Lq.s (Lq.s (Lq.s (Lq.s (Lq.s (Lq.s (Lq.s (Lq.s Lq.nil)))))))) ?_
  exact ka ((x6 + 1), B) (Option.some.inj hr).symm
def J_309_259_j374 (L : Nat) (xs : Nat → Int32) (B : Wd) (x1 : Int32) (x2 : Nat) (x3 : Int32) (x4 : Int32) (x5 : Nat) (x6 : Int32) (t0 : Int32) (t1 : Int32) (t2 : Nat) : Option ((Int32 × Wd) ⊕ (Wd)) :=
  (B.sI t2 t1 t0).bind fun B106 =>
  J_309_259_j375 L xs B106 x1 x2 x3 x4 x5 x6
set_option maxRecDepth 200000 in
theorem j_309_259_j374 {d : Nat} (hd : 6 ≤ d) {L : Nat} {xs : Nat → Int32} {res : ARe} {B : Wd} {x1 : Int32} {x2 : Nat} {x3 : Int32} {x4 : Int32} {x5 : Nat} {x6 : Int32} {t0 : Int32} {t1 : Int32} {t2 : Nat} {o : (Int32 × Wd) ⊕ (Wd)} (hr : J_309_259_j374 L xs B x1 x2 x3 x4 x5 x6 t0 t1 t2 = some o) (ka : ∀ s, o = .inl s → Ex d am_M309 (some (L, xs)) (P_309_259 L xs x1 x2 x3 x4 x5 s) res) (kx : ∀ s, o = .inr s → Ex d am_M309 (some (L, xs)) (PX_309_259 L xs x1 x2 x3 x4 x5 s) res) : Ex d am_M309 (some (L, xs)) (374, [some (.ref am_SB), some (.int x1), some (.ref x2), some (.int x3), some (.int x4), some (.ref x5), some (.int x6), none], [.int t0, .int t1, .ref t2], (mk B), B.kc, B.kn) res := by
  delta J_309_259_j374 at hr
  obtain ⟨B106, h107, hr⟩ := bd_some hr
  refine x_sI rfl rfl h107 ?_
  refine x_fg (Lq.s (Lq.s (Lq.s (Lq.s (Lq.s (Lq.s (Lq.s (Lq.s Lq.nil)))))))) ?_
  exact j_309_259_j375 hd hr ka kx
def J_309_259_j338 (L : Nat) (xs : Nat → Int32) (B : Wd) (x1 : Int32) (x2 : Nat) (x3 : Int32) (x4 : Int32) (x5 : Nat) (x6 : Int32) (x7 : Int32) (t0 : Int32) (t1 : Int32) (t2 : Nat) : Option ((Int32 × Wd) ⊕ (Wd)) :=
  (B.sI t2 t1 t0).bind fun B94 =>
  (B94.gR x2 7 1).bind fun v96 =>
  (B94.aR v96 x6).bind fun v98 =>
  (B94.aB v98 x4).bind fun v100 =>
  if v100 = 0 then
    (B94.gI x2 7 0).bind fun v103 =>
    if v103 = 0 then none else
    J_309_259_j374 L xs B94 x1 x2 x3 x4 x5 x6 ((x7 / 90) - (x7 / 90) / v103 * v103) (7 + x6) x5
  else
    J_309_259_j374 L xs B94 x1 x2 x3 x4 x5 x6 x4 (7 + x6) x5
set_option maxRecDepth 200000 in
theorem j_309_259_j338 {d : Nat} (hd : 6 ≤ d) {L : Nat} {xs : Nat → Int32} {res : ARe} {B : Wd} {x1 : Int32} {x2 : Nat} {x3 : Int32} {x4 : Int32} {x5 : Nat} {x6 : Int32} {x7 : Int32} {t0 : Int32} {t1 : Int32} {t2 : Nat} {o : (Int32 × Wd) ⊕ (Wd)} (hr : J_309_259_j338 L xs B x1 x2 x3 x4 x5 x6 x7 t0 t1 t2 = some o) (ka : ∀ s, o = .inl s → Ex d am_M309 (some (L, xs)) (P_309_259 L xs x1 x2 x3 x4 x5 s) res) (kx : ∀ s, o = .inr s → Ex d am_M309 (some (L, xs)) (PX_309_259 L xs x1 x2 x3 x4 x5 s) res) : Ex d am_M309 (some (L, xs)) (338, [some (.ref am_SB), some (.int x1), some (.ref x2), some (.int x3), some (.int x4), some (.ref x5), some (.int x6), some (.int x7)], [.int t0, .int t1, .ref t2], (mk B), B.kc, B.kn) res := by
  delta J_309_259_j338 at hr
  obtain ⟨B94, h95, hr⟩ := bd_some hr
  refine x_sI rfl rfl h95 ?_
  refine x_b 5 (S2 := (347, [some (.ref am_SB), some (.int x1), some (.ref x2), some (.int x3), some (.int x4), some (.ref x5), some (.int x6), some (.int x7)], [.ref x2, .int (7 + x6), .ref x5], (mk B94), B94.kc, B94.kn)) rfl ?_
  obtain ⟨v96, h97, hr⟩ := bd_some hr
  refine x_gR rfl rfl h97 ?_
  refine x_b 1 (S2 := (352, [some (.ref am_SB), some (.int x1), some (.ref x2), some (.int x3), some (.int x4), some (.ref x5), some (.int x6), some (.int x7)], [.int x6, .ref v96, .int (7 + x6), .ref x5], (mk B94), B94.kc, B94.kn)) rfl ?_
  obtain ⟨v98, h99, hr⟩ := bd_some hr
  refine x_aR rfl rfl h99 ?_
  refine x_b 1 (S2 := (355, [some (.ref am_SB), some (.int x1), some (.ref x2), some (.int x3), some (.int x4), some (.ref x5), some (.int x6), some (.int x7)], [.int x4, .ref v98, .int (7 + x6), .ref x5], (mk B94), B94.kc, B94.kn)) rfl ?_
  obtain ⟨v100, h101, hr⟩ := bd_some hr
  refine x_aB rfl rfl h101 ?_
  rcases ite_some hr with ⟨h102, hr⟩ | ⟨h102, hr⟩
  · refine x_zt rfl rfl (decide_eq_true h102) ?_
    refine x_b 2 (S2 := (368, [some (.ref am_SB), some (.int x1), some (.ref x2), some (.int x3), some (.int x4), some (.ref x5), some (.int x6), some (.int x7)], [.int 90, .int x7, .int (7 + x6), .ref x5], (mk B94), B94.kc, B94.kn)) rfl ?_
    refine x_div rfl rfl (by decide) ?_
    refine x_b 1 (S2 := (370, [some (.ref am_SB), some (.int x1), some (.ref x2), some (.int x3), some (.int x4), some (.ref x5), some (.int x6), some (.int x7)], [.ref x2, .int (x7 / 90), .int (7 + x6), .ref x5], (mk B94), B94.kc, B94.kn)) rfl ?_
    obtain ⟨v103, h104, hr⟩ := bd_some hr
    refine x_gI rfl rfl h104 ?_
    rcases ite_some hr with ⟨h105, hr⟩ | ⟨h105, hr⟩
    · cases hr
    refine x_rem rfl rfl h105 ?_
    refine x_fg (Lq.s (Lq.s (Lq.s (Lq.s (Lq.s (Lq.s (Lq.s (Lq.n Lq.nil)))))))) ?_
    exact j_309_259_j374 hd hr ka kx
  · refine x_zf rfl rfl (decide_eq_false h102) ?_
    refine x_b 2 (S2 := (374, [some (.ref am_SB), some (.int x1), some (.ref x2), some (.int x3), some (.int x4), some (.ref x5), some (.int x6), some (.int x7)], [.int x4, .int (7 + x6), .ref x5], (mk B94), B94.kc, B94.kn)) rfl ?_
    refine x_fg (Lq.s (Lq.s (Lq.s (Lq.s (Lq.s (Lq.s (Lq.s (Lq.n Lq.nil)))))))) ?_
    exact j_309_259_j374 hd hr ka kx
def G_309_259 (L : Nat) (xs : Nat → Int32) (x1 : Int32) (x2 : Nat) (x3 : Int32) (x4 : Int32) (x5 : Nat) (s : Int32 × Wd) : Option ((Int32 × Wd) ⊕ (Wd)) := 
  match s with
  | (x6, B) =>
    (B.gI x2 7 0).bind fun v80 =>
    if v80 ≤ x6 then
      some (.inr B)
    else
      (F_366 L xs B ((26 + x3) + x6) (1000000 : Int32)).bind fun v84 =>
      if x6 = x4 then
        J_309_259_j375 L xs B x1 x2 x3 x4 x5 x6
      else
        if ¬ (v84 - v84 / 4 * 4) = 0 then
          (B.gR x2 7 1).bind fun v87 =>
          (B.aR v87 x6).bind fun v89 =>
          (B.aB v89 x4).bind fun v91 =>
          if v91 = 0 then
            J_309_259_j338 L xs B x1 x2 x3 x4 x5 x6 v84 ((v84 / 7) - (v84 / 7) / 12 * 12) (1 + x6) x5
          else
            J_309_259_j338 L xs B x1 x2 x3 x4 x5 x6 v84 (1 <<< ((4 + (v84 - v84 / 3 * 3)) &&& 31)) (1 + x6) x5
        else
          J_309_259_j375 L xs B x1 x2 x3 x4 x5 x6
set_option maxRecDepth 200000 in
theorem g_309_259 {d : Nat} (hd : 6 ≤ d) {L : Nat} {xs : Nat → Int32} {res : ARe} {x1 : Int32} {x2 : Nat} {x3 : Int32} {x4 : Int32} {x5 : Nat} {s : Int32 × Wd} {o : (Int32 × Wd) ⊕ (Wd)} (hr : G_309_259 L xs x1 x2 x3 x4 x5 s = some o) (ka : ∀ s, o = .inl s → Ex d am_M309 (some (L, xs)) (P_309_259 L xs x1 x2 x3 x4 x5 s) res) (kx : ∀ s, o = .inr s → Ex d am_M309 (some (L, xs)) (PX_309_259 L xs x1 x2 x3 x4 x5 s) res) : Ex d am_M309 (some (L, xs)) (P_309_259 L xs x1 x2 x3 x4 x5 s) res := by
  obtain ⟨x6, B⟩ := s
  delta G_309_259 at hr
  show Ex d am_M309 (some (L, xs)) (259, [some (.ref am_SB), some (.int x1), some (.ref x2), some (.int x3), some (.int x4), some (.ref x5), some (.int x6), none], [], (mk B), B.kc, B.kn) res
  refine x_b 2 (S2 := (262, [some (.ref am_SB), some (.int x1), some (.ref x2), some (.int x3), some (.int x4), some (.ref x5), some (.int x6), none], [.ref x2, .int x6], (mk B), B.kc, B.kn)) rfl ?_
  obtain ⟨v80, h81, hr⟩ := bd_some hr
  refine x_gI rfl rfl h81 ?_
  rcases ite_some hr with ⟨h82, hr⟩ | ⟨h82, hr⟩
  · refine x_ct rfl rfl (decide_eq_true h82) ?_
    refine x_fg (Lq.s (Lq.s (Lq.s (Lq.s (Lq.n (Lq.s (Lq.n (Lq.s Lq.nil)))))))) ?_
    exact kx B (Option.some.inj hr).symm
  · refine x_cf rfl rfl (decide_eq_false h82) ?_
    refine x_b 7 (S2 := (278, [some (.ref am_SB), some (.int x1), some (.ref x2), some (.int x3), some (.int x4), some (.ref x5), some (.int x6), none], [.int (1000000 : Int32), .int ((26 + x3) + x6), .ref am_SB], (mk B), B.kc, B.kn)) rfl ?_
    obtain ⟨v84, h83, hr⟩ := bd_some hr
    refine x_cW (m_366 h83) rfl rfl rfl rfl rfl (by omega) ?_
    refine x_b 3 (S2 := (287, [some (.ref am_SB), some (.int x1), some (.ref x2), some (.int x3), some (.int x4), some (.ref x5), some (.int x6), some (.int v84)], [.int x4, .int x6], (mk B), B.kc, B.kn)) rfl ?_
    rcases ite_some hr with ⟨h85, hr⟩ | ⟨h85, hr⟩
    · refine x_ct rfl rfl (decide_eq_true h85) ?_
      refine x_fg (Lq.s (Lq.s (Lq.s (Lq.s (Lq.s (Lq.s (Lq.s (Lq.n Lq.nil)))))))) ?_
      exact j_309_259_j375 hd hr ka kx
    · refine x_cf rfl rfl (decide_eq_false h85) ?_
      refine x_b 2 (S2 := (293, [some (.ref am_SB), some (.int x1), some (.ref x2), some (.int x3), some (.int x4), some (.ref x5), some (.int x6), some (.int v84)], [.int 4, .int v84], (mk B), B.kc, B.kn)) rfl ?_
      refine x_rem rfl rfl (by decide) ?_
      rcases ite_some hr with ⟨h86, hr⟩ | ⟨h86, hr⟩
      · refine x_zt rfl rfl (decide_eq_true h86) ?_
        refine x_b 5 (S2 := (307, [some (.ref am_SB), some (.int x1), some (.ref x2), some (.int x3), some (.int x4), some (.ref x5), some (.int x6), some (.int v84)], [.ref x2, .int (1 + x6), .ref x5], (mk B), B.kc, B.kn)) rfl ?_
        obtain ⟨v87, h88, hr⟩ := bd_some hr
        refine x_gR rfl rfl h88 ?_
        refine x_b 1 (S2 := (312, [some (.ref am_SB), some (.int x1), some (.ref x2), some (.int x3), some (.int x4), some (.ref x5), some (.int x6), some (.int v84)], [.int x6, .ref v87, .int (1 + x6), .ref x5], (mk B), B.kc, B.kn)) rfl ?_
        obtain ⟨v89, h90, hr⟩ := bd_some hr
        refine x_aR rfl rfl h90 ?_
        refine x_b 1 (S2 := (315, [some (.ref am_SB), some (.int x1), some (.ref x2), some (.int x3), some (.int x4), some (.ref x5), some (.int x6), some (.int v84)], [.int x4, .ref v89, .int (1 + x6), .ref x5], (mk B), B.kc, B.kn)) rfl ?_
        obtain ⟨v91, h92, hr⟩ := bd_some hr
        refine x_aB rfl rfl h92 ?_
        rcases ite_some hr with ⟨h93, hr⟩ | ⟨h93, hr⟩
        · refine x_zt rfl rfl (decide_eq_true h93) ?_
          refine x_b 2 (S2 := (334, [some (.ref am_SB), some (.int x1), some (.ref x2), some (.int x3), some (.int x4), some (.ref x5), some (.int x6), some (.int v84)], [.int 7, .int v84, .int (1 + x6), .ref x5], (mk B), B.kc, B.kn)) rfl ?_
          refine x_div rfl rfl (by decide) ?_
          refine x_b 1 (S2 := (337, [some (.ref am_SB), some (.int x1), some (.ref x2), some (.int x3), some (.int x4), some (.ref x5), some (.int x6), some (.int v84)], [.int 12, .int (v84 / 7), .int (1 + x6), .ref x5], (mk B), B.kc, B.kn)) rfl ?_
          refine x_rem rfl rfl (by decide) ?_
          refine x_fg (Lq.s (Lq.s (Lq.s (Lq.s (Lq.s (Lq.s (Lq.s (Lq.s Lq.nil)))))))) ?_
          exact j_309_259_j338 hd hr ka kx
        · refine x_zf rfl rfl (decide_eq_false h93) ?_
          refine x_b 4 (S2 := (324, [some (.ref am_SB), some (.int x1), some (.ref x2), some (.int x3), some (.int x4), some (.ref x5), some (.int x6), some (.int v84)], [.int 3, .int v84, .int 4, .int 1, .int (1 + x6), .ref x5], (mk B), B.kc, B.kn)) rfl ?_
          refine x_rem rfl rfl (by decide) ?_
          refine x_b 3 (S2 := (338, [some (.ref am_SB), some (.int x1), some (.ref x2), some (.int x3), some (.int x4), some (.ref x5), some (.int x6), some (.int v84)], [.int (1 <<< ((4 + (v84 - v84 / 3 * 3)) &&& 31)), .int (1 + x6), .ref x5], (mk B), B.kc, B.kn)) rfl ?_
          refine x_fg (Lq.s (Lq.s (Lq.s (Lq.s (Lq.s (Lq.s (Lq.s (Lq.s Lq.nil)))))))) ?_
          exact j_309_259_j338 hd hr ka kx
      · refine x_zf rfl rfl (decide_eq_false h86) ?_
        refine x_b 1 (S2 := (375, [some (.ref am_SB), some (.int x1), some (.ref x2), some (.int x3), some (.int x4), some (.ref x5), some (.int x6), some (.int v84)], [], (mk B), B.kc, B.kn)) rfl ?_
        refine x_fg (Lq.s (Lq.s (Lq.s (Lq.s (Lq.s (Lq.s (Lq.s (Lq.n Lq.nil)))))))) ?_
        exact j_309_259_j375 hd hr ka kx
def G_309_195 (L : Nat) (xs : Nat → Int32) (x1 : Int32) (x2 : Nat) (s : Int32 × Wd) : Option ((Int32 × Wd) ⊕ (Wd)) := 
  match s with
  | (x3, B) =>
    if ((x1 / 18) - (x1 / 18) / 4 * 4) ≤ x3 then
      some (.inr B)
    else
      (B.gI x2 7 0).bind fun v65 =>
      (F_366 L xs B (24 + x3) v65).bind fun v68 =>
      (B.nA 0 13).bind fun (a69, B70) =>
      (B70.sI a69 0 v68).bind fun B72 =>
      (lw (G_309_234 L xs x1 x2 x3 v68 a69) 200000 (0, B72)).bind fun B78 =>
      (lw (G_309_259 L xs x1 x2 x3 v68 a69) 200000 (0, B78)).bind fun B109 =>
      (B109.gR x2 7 4).bind fun v111 =>
      (B109.rc v111 10).bind fun _ =>
      (F_354 B109 v111 a69).bind fun (v115, B116) =>
      some (.inl ((x3 + 1), B116))
set_option maxRecDepth 200000 in
theorem g_309_195 {d : Nat} (hd : 6 ≤ d) {L : Nat} {xs : Nat → Int32} {res : ARe} {x1 : Int32} {x2 : Nat} {s : Int32 × Wd} {o : (Int32 × Wd) ⊕ (Wd)} (hr : G_309_195 L xs x1 x2 s = some o) (ka : ∀ s, o = .inl s → Ex d am_M309 (some (L, xs)) (P_309_195 L xs x1 x2 s) res) (kx : ∀ s, o = .inr s → Ex d am_M309 (some (L, xs)) (PX_309_195 L xs x1 x2 s) res) : Ex d am_M309 (some (L, xs)) (P_309_195 L xs x1 x2 s) res := by
  obtain ⟨x3, B⟩ := s
  delta G_309_195 at hr
  show Ex d am_M309 (some (L, xs)) (195, [some (.ref am_SB), some (.int x1), some (.ref x2), some (.int x3), none, none, none, none], [], (mk B), B.kc, B.kn) res
  refine x_b 3 (S2 := (199, [some (.ref am_SB), some (.int x1), some (.ref x2), some (.int x3), none, none, none, none], [.int 18, .int x1, .int x3], (mk B), B.kc, B.kn)) rfl ?_
  refine x_div rfl rfl (by decide) ?_
  refine x_b 1 (S2 := (201, [some (.ref am_SB), some (.int x1), some (.ref x2), some (.int x3), none, none, none, none], [.int 4, .int (x1 / 18), .int x3], (mk B), B.kc, B.kn)) rfl ?_
  refine x_rem rfl rfl (by decide) ?_
  rcases ite_some hr with ⟨h64, hr⟩ | ⟨h64, hr⟩
  · refine x_ct rfl rfl (decide_eq_true h64) ?_
    refine x_fg (Lq.n (Lq.n (Lq.s (Lq.n (Lq.s (Lq.s (Lq.s (Lq.s Lq.nil)))))))) ?_
    exact kx B (Option.some.inj hr).symm
  · refine x_cf rfl rfl (decide_eq_false h64) ?_
    refine x_b 5 (S2 := (211, [some (.ref am_SB), some (.int x1), some (.ref x2), some (.int x3), none, none, none, none], [.ref x2, .int (24 + x3), .ref am_SB], (mk B), B.kc, B.kn)) rfl ?_
    obtain ⟨v65, h66, hr⟩ := bd_some hr
    refine x_gI rfl rfl h66 ?_
    obtain ⟨v68, h67, hr⟩ := bd_some hr
    refine x_cW (m_366 h67) rfl rfl rfl rfl rfl (by omega) ?_
    refine x_b 2 (S2 := (221, [some (.ref am_SB), some (.int x1), some (.ref x2), some (.int x3), some (.int v68), none, none, none], [.int 13], (mk B), B.kc, B.kn)) rfl ?_
    obtain ⟨⟨a69, B70⟩, h71, hr⟩ := bd_some hr
    refine x_nA rfl rfl (.inl ⟨rfl, rfl⟩) h71 ?_
    refine x_b 4 (S2 := (230, [some (.ref am_SB), some (.int x1), some (.ref x2), some (.int x3), some (.int v68), some (.ref a69), none, none], [.int v68, .int 0, .ref a69], (mk B70), B70.kc, B70.kn)) rfl ?_
    obtain ⟨B72, h73, hr⟩ := bd_some hr
    refine x_sI rfl rfl h73 ?_
    refine x_b 2 (S2 := (234, [some (.ref am_SB), some (.int x1), some (.ref x2), some (.int x3), some (.int v68), some (.ref a69), some (.int 0), none], [], (mk B72), B72.kc, B72.kn)) rfl ?_
    refine x_fg (Lq.s (Lq.s (Lq.s (Lq.s (Lq.s (Lq.s (Lq.s (Lq.s Lq.nil)))))))) ?_
    obtain ⟨B78, h77, hr⟩ := bd_some hr
    refine x_lw (P := P_309_234 L xs x1 x2 x3 v68 a69) (Q := fun x => Ex d am_M309 (some (L, xs)) (PX_309_234 L xs x1 x2 x3 v68 a69 x) res) (fun s o h1 ka kx => g_309_234 hd h1 ka kx) _ (0, B72) _ h77 ?_
    show Ex d am_M309 (some (L, xs)) (256, [some (.ref am_SB), some (.int x1), some (.ref x2), some (.int x3), some (.int v68), some (.ref a69), none, none], [], (mk B78), B78.kc, B78.kn) res
    refine x_b 2 (S2 := (259, [some (.ref am_SB), some (.int x1), some (.ref x2), some (.int x3), some (.int v68), some (.ref a69), some (.int 0), none], [], (mk B78), B78.kc, B78.kn)) rfl ?_
    refine x_fg (Lq.s (Lq.s (Lq.s (Lq.s (Lq.s (Lq.s (Lq.s (Lq.s Lq.nil)))))))) ?_
    obtain ⟨B109, h108, hr⟩ := bd_some hr
    refine x_lw (P := P_309_259 L xs x1 x2 x3 v68 a69) (Q := fun x => Ex d am_M309 (some (L, xs)) (PX_309_259 L xs x1 x2 x3 v68 a69 x) res) (fun s o h1 ka kx => g_309_259 hd h1 ka kx) _ (0, B78) _ h108 ?_
    show Ex d am_M309 (some (L, xs)) (381, [some (.ref am_SB), some (.int x1), some (.ref x2), some (.int x3), none, some (.ref a69), none, none], [], (mk B109), B109.kc, B109.kn) res
    refine x_b 1 (S2 := (382, [some (.ref am_SB), some (.int x1), some (.ref x2), some (.int x3), none, some (.ref a69), none, none], [.ref x2], (mk B109), B109.kc, B109.kn)) rfl ?_
    obtain ⟨v111, h112, hr⟩ := bd_some hr
    refine x_gR rfl rfl h112 ?_
    refine x_b 1 (S2 := (387, [some (.ref am_SB), some (.int x1), some (.ref x2), some (.int x3), none, some (.ref a69), none, none], [.ref a69, .ref v111], (mk B109), B109.kc, B109.kn)) rfl ?_
    obtain ⟨uh113, h113, hr⟩ := bd_some hr
    obtain ⟨⟨v115, B116⟩, h114, hr⟩ := bd_some hr
    refine x_cW (m_354 h114) rfl rfl rfl rfl (am_recv_c h113 (.inl rfl)) (by omega) ?_
    refine x_b 3 (S2 := (195, [some (.ref am_SB), some (.int x1), some (.ref x2), some (.int (x3 + 1)), none, some (.ref a69), none, none], [], (mk B116), B116.kc, B116.kn)) rfl ?_
    refine x_fg (Lq.s (Lq.s (Lq.s (Lq.s (Lq.s (Lq.n (Lq.s (Lq.s Lq.nil)))))))) ?_
    exact ka ((x3 + 1), B116) (Option.some.inj hr).symm
/-- PebbleProofsLaw$Yard.drawn([I)LPebbleProofsLaw$Yard; -/
def F_309 (L : Nat) (xs : Nat → Int32) (B : Wd) : Option (Nat × Wd) :=
  (F_366 L xs B 0 (1000000000 : Int32)).bind fun v2 =>
  (B.nO 7).bind fun (a3, B4) =>
  (if a3 < am_SB then some () else none).bind fun _ =>
  (F_302 B4 a3 (1 + (v2 - v2 / 6 * 6))).bind fun B9 =>
  (lw (G_309_24 L xs v2 a3) 200000 (1, B9)).bind fun B20 =>
  (lw (G_309_63 L xs v2 a3) 200000 (0, B20)).bind fun B49 =>
  (lw (G_309_153 L xs v2 a3) 200000 (0, B49)).bind fun B62 =>
  (lw (G_309_195 L xs v2 a3) 200000 (0, B62)).bind fun B118 =>
  (if a3 < am_SB then some () else none).bind fun _ =>
  some (a3, B118)
set_option maxRecDepth 200000 in
theorem f_309 {d : Nat} (hd : 6 ≤ d) {L : Nat} {xs : Nat → Int32} {res : ARe} {B : Wd} {o : Nat × Wd} (hr : F_309 L xs B = some o) (kr : res = (.inl (some (.ref o.1)), mk o.2, Wd.kc o.2, Wd.kn o.2)) : Ex d am_M309 (some (L, xs)) (0, [some (.ref am_SB), none, none, none, none, none, none, none], [], (mk B), B.kc, B.kn) res := by
  delta F_309 at hr
  refine x_b 3 (S2 := (4, [some (.ref am_SB), none, none, none, none, none, none, none], [.int (1000000000 : Int32), .int 0, .ref am_SB], (mk B), B.kc, B.kn)) rfl ?_
  obtain ⟨v2, h1, hr⟩ := bd_some hr
  refine x_cW (m_366 h1) rfl rfl rfl rfl rfl (by omega) ?_
  refine x_b 1 (S2 := (8, [some (.ref am_SB), some (.int v2), none, none, none, none, none, none], [], (mk B), B.kc, B.kn)) rfl ?_
  obtain ⟨⟨a3, B4⟩, h5, hr⟩ := bd_some hr
  refine x_nO rfl rfl h5 ?_
  refine x_b 4 (S2 := (16, [some (.ref am_SB), some (.int v2), none, none, none, none, none, none], [.int 6, .int v2, .int 1, .ref a3, .ref a3], (mk B4), B4.kc, B4.kn)) rfl ?_
  refine x_rem rfl rfl (by decide) ?_
  refine x_b 1 (S2 := (18, [some (.ref am_SB), some (.int v2), none, none, none, none, none, none], [.int (1 + (v2 - v2 / 6 * 6)), .ref a3, .ref a3], (mk B4), B4.kc, B4.kn)) rfl ?_
  obtain ⟨uh7, h7, hr⟩ := bd_some hr
  obtain ⟨h6, -⟩ := itn_some h7
  obtain ⟨B9, h8, hr⟩ := bd_some hr
  refine x_cW (m_302 h8) rfl rfl rfl rfl (am_recv_p h6 (by decide)) (by omega) ?_
  refine x_b 3 (S2 := (24, [some (.ref am_SB), some (.int v2), some (.ref a3), some (.int 1), none, none, none, none], [], (mk B9), B9.kc, B9.kn)) rfl ?_
  refine x_fg (Lq.s (Lq.s (Lq.s (Lq.s (Lq.s (Lq.s (Lq.s (Lq.s Lq.nil)))))))) ?_
  obtain ⟨B20, h19, hr⟩ := bd_some hr
  refine x_lw (P := P_309_24 L xs v2 a3) (Q := fun x => Ex d am_M309 (some (L, xs)) (PX_309_24 L xs v2 a3 x) res) (fun s o h1 ka kx => g_309_24 hd h1 ka kx) _ (1, B9) _ h19 ?_
  show Ex d am_M309 (some (L, xs)) (61, [some (.ref am_SB), some (.int v2), some (.ref a3), none, none, none, none, none], [], (mk B20), B20.kc, B20.kn) res
  refine x_b 2 (S2 := (63, [some (.ref am_SB), some (.int v2), some (.ref a3), some (.int 0), none, none, none, none], [], (mk B20), B20.kc, B20.kn)) rfl ?_
  refine x_fg (Lq.s (Lq.s (Lq.s (Lq.s (Lq.s (Lq.s (Lq.s (Lq.s Lq.nil)))))))) ?_
  obtain ⟨B49, h48, hr⟩ := bd_some hr
  refine x_lw (P := P_309_63 L xs v2 a3) (Q := fun x => Ex d am_M309 (some (L, xs)) (PX_309_63 L xs v2 a3 x) res) (fun s o h1 ka kx => g_309_63 hd h1 ka kx) _ (0, B20) _ h48 ?_
  show Ex d am_M309 (some (L, xs)) (151, [some (.ref am_SB), some (.int v2), some (.ref a3), none, none, none, none, none], [], (mk B49), B49.kc, B49.kn) res
  refine x_b 2 (S2 := (153, [some (.ref am_SB), some (.int v2), some (.ref a3), some (.int 0), none, none, none, none], [], (mk B49), B49.kc, B49.kn)) rfl ?_
  refine x_fg (Lq.s (Lq.s (Lq.s (Lq.s (Lq.s (Lq.s (Lq.s (Lq.s Lq.nil)))))))) ?_
  obtain ⟨B62, h61, hr⟩ := bd_some hr
  refine x_lw (P := P_309_153 L xs v2 a3) (Q := fun x => Ex d am_M309 (some (L, xs)) (PX_309_153 L xs v2 a3 x) res) (fun s o h1 ka kx => g_309_153 hd h1 ka kx) _ (0, B49) _ h61 ?_
  show Ex d am_M309 (some (L, xs)) (193, [some (.ref am_SB), some (.int v2), some (.ref a3), none, none, none, none, none], [], (mk B62), B62.kc, B62.kn) res
  refine x_b 2 (S2 := (195, [some (.ref am_SB), some (.int v2), some (.ref a3), some (.int 0), none, none, none, none], [], (mk B62), B62.kc, B62.kn)) rfl ?_
  refine x_fg (Lq.s (Lq.s (Lq.s (Lq.s (Lq.s (Lq.s (Lq.s (Lq.s Lq.nil)))))))) ?_
  obtain ⟨B118, h117, hr⟩ := bd_some hr
  refine x_lw (P := P_309_195 L xs v2 a3) (Q := fun x => Ex d am_M309 (some (L, xs)) (PX_309_195 L xs v2 a3 x) res) (fun s o h1 ka kx => g_309_195 hd h1 ka kx) _ (0, B62) _ h117 ?_
  show Ex d am_M309 (some (L, xs)) (397, [none, none, some (.ref a3), none, none, none, none, none], [], (mk B118), B118.kc, B118.kn) res
  refine x_b 1 (S2 := (398, [none, none, some (.ref a3), none, none, none, none, none], [.ref a3], (mk B118), B118.kc, B118.kn)) rfl ?_
  obtain ⟨uh121, h121, hr⟩ := bd_some hr
  obtain ⟨h120, -⟩ := itn_some h121
  cases hr
  rw [kr]
  exact x_ret rfl rfl (am_ret_h h120)
set_option maxRecDepth 200000 in
theorem m_309 {L : Nat} {xs : Nat → Int32} {B : Wd} {o : Nat × Wd} (hr : F_309 L xs B = some o) : RnW (some (L, xs)) 7 309 [.ref am_SB] B (.inl (some (.ref o.1))) o.2 :=
  x_methW (M := am_M309) rfl (show 1 ≤ 8 by decide) (f_309 (Nat.le_refl _) hr rfl)
abbrev P_310_32 (x0 : Nat) (x1 : Nat) (s : Int32 × Wd) : ASt := (32, [some (.ref x0), some (.ref x1), some (.int s.1), none, none], [], (mk s.2), Wd.kc s.2, Wd.kn s.2)
abbrev PX_310_32 (x0 : Nat) (x1 : Nat) (s : Wd) : ASt := (90, [some (.ref x0), some (.ref x1), none, none, none], [], (mk s), Wd.kc s, Wd.kn s)
abbrev P_310_42 (x0 : Nat) (x1 : Nat) (x2 : Int32) (s : Int32 × Wd) : ASt := (42, [some (.ref x0), some (.ref x1), some (.int x2), some (.int s.1), none], [], (mk s.2), Wd.kc s.2, Wd.kn s.2)
abbrev PX_310_42 (x0 : Nat) (x1 : Nat) (x2 : Int32) (s : Wd) : ASt := (84, [some (.ref x0), some (.ref x1), some (.int x2), none, none], [], (mk s), Wd.kc s, Wd.kn s)
def J_310_42_j78 (B : Wd) (x0 : Nat) (x1 : Nat) (x2 : Int32) (x3 : Int32) : Option ((Int32 × Wd) ⊕ (Wd)) :=
  some (.inl ((x3 + 1), B))
set_option maxRecDepth 200000 in
theorem j_310_42_j78 {d : Nat} (hd : 9 ≤ d) {scr : ASc} {res : ARe} {B : Wd} {x0 : Nat} {x1 : Nat} {x2 : Int32} {x3 : Int32} {o : (Int32 × Wd) ⊕ (Wd)} (hr : J_310_42_j78 B x0 x1 x2 x3 = some o) (ka : ∀ s, o = .inl s → Ex d am_M310 scr (P_310_42 x0 x1 x2 s) res) (kx : ∀ s, o = .inr s → Ex d am_M310 scr (PX_310_42 x0 x1 x2 s) res) : Ex d am_M310 scr (78, [some (.ref x0), some (.ref x1), some (.int x2), some (.int x3), none], [], (mk B), B.kc, B.kn) res := by
  delta J_310_42_j78 at hr
  refine x_b 2 (S2 := (42, [some (.ref x0), some (.ref x1), some (.int x2), some (.int (x3 + 1)), none], [], (mk B), B.kc, B.kn)) rfl ?_
  refine x_fg (Lq.s (Lq.s (Lq.s (Lq.s (Lq.s Lq.nil))))) ?_
  exact ka ((x3 + 1), B) (Option.some.inj hr).symm
def G_310_42 (x0 : Nat) (x1 : Nat) (x2 : Int32) (s : Int32 × Wd) : Option ((Int32 × Wd) ⊕ (Wd)) := 
  match s with
  | (x3, B) =>
    if x2 ≤ x3 then
      some (.inr B)
    else
      (B.gR x0 7 1).bind fun v33 =>
      (B.aR v33 x2).bind fun v35 =>
      (B.aB v35 x3).bind fun v37 =>
      if v37 = 0 then
        J_310_42_j78 B x0 x1 x2 x3
      else
        (B.rc x1 9).bind fun _ =>
        (F_333 B x1 (am_SB + 10 + 2 * 24)).bind fun (a42, B43) =>
        (B43.rc a42 9).bind fun _ =>
        (F_335 B43 a42 x2).bind fun (a46, B47) =>
        (B47.rc a46 9).bind fun _ =>
        (F_334 B47 a46 32).bind fun (a50, B51) =>
        (B51.rc a50 9).bind fun _ =>
        (F_335 B51 a50 x3).bind fun (a54, B55) =>
        J_310_42_j78 B55 x0 x1 x2 x3
set_option maxRecDepth 200000 in
theorem g_310_42 {d : Nat} (hd : 9 ≤ d) {scr : ASc} {res : ARe} {x0 : Nat} {x1 : Nat} {x2 : Int32} {s : Int32 × Wd} {o : (Int32 × Wd) ⊕ (Wd)} (hr : G_310_42 x0 x1 x2 s = some o) (ka : ∀ s, o = .inl s → Ex d am_M310 scr (P_310_42 x0 x1 x2 s) res) (kx : ∀ s, o = .inr s → Ex d am_M310 scr (PX_310_42 x0 x1 x2 s) res) : Ex d am_M310 scr (P_310_42 x0 x1 x2 s) res := by
  obtain ⟨x3, B⟩ := s
  delta G_310_42 at hr
  show Ex d am_M310 scr (42, [some (.ref x0), some (.ref x1), some (.int x2), some (.int x3), none], [], (mk B), B.kc, B.kn) res
  refine x_b 2 (S2 := (44, [some (.ref x0), some (.ref x1), some (.int x2), some (.int x3), none], [.int x2, .int x3], (mk B), B.kc, B.kn)) rfl ?_
  rcases ite_some hr with ⟨h32, hr⟩ | ⟨h32, hr⟩
  · refine x_ct rfl rfl (decide_eq_true h32) ?_
    refine x_fg (Lq.s (Lq.s (Lq.s (Lq.n (Lq.s Lq.nil))))) ?_
    exact kx B (Option.some.inj hr).symm
  · refine x_cf rfl rfl (decide_eq_false h32) ?_
    refine x_b 1 (S2 := (48, [some (.ref x0), some (.ref x1), some (.int x2), some (.int x3), none], [.ref x0], (mk B), B.kc, B.kn)) rfl ?_
    obtain ⟨v33, h34, hr⟩ := bd_some hr
    refine x_gR rfl rfl h34 ?_
    refine x_b 1 (S2 := (52, [some (.ref x0), some (.ref x1), some (.int x2), some (.int x3), none], [.int x2, .ref v33], (mk B), B.kc, B.kn)) rfl ?_
    obtain ⟨v35, h36, hr⟩ := bd_some hr
    refine x_aR rfl rfl h36 ?_
    refine x_b 1 (S2 := (54, [some (.ref x0), some (.ref x1), some (.int x2), some (.int x3), none], [.int x3, .ref v35], (mk B), B.kc, B.kn)) rfl ?_
    obtain ⟨v37, h38, hr⟩ := bd_some hr
    refine x_aB rfl rfl h38 ?_
    rcases ite_some hr with ⟨h39, hr⟩ | ⟨h39, hr⟩
    · refine x_zt rfl rfl (decide_eq_true h39) ?_
      refine x_fg (Lq.s (Lq.s (Lq.s (Lq.s (Lq.s Lq.nil))))) ?_
      exact j_310_42_j78 hd hr ka kx
    · refine x_zf rfl rfl (decide_eq_false h39) ?_
      refine x_b 2 (S2 := (61, [some (.ref x0), some (.ref x1), some (.int x2), some (.int x3), none], [.ref (am_SB + 10 + 2 * 24), .ref x1], (mk B), B.kc, B.kn)) rfl ?_
      obtain ⟨uh40, h40, hr⟩ := bd_some hr
      obtain ⟨⟨a42, B43⟩, h41, hr⟩ := bd_some hr
      refine x_cW (m_333 h41) rfl rfl rfl rfl (am_recv_c h40 (.inl rfl)) (by omega) ?_
      refine x_b 1 (S2 := (65, [some (.ref x0), some (.ref x1), some (.int x2), some (.int x3), none], [.int x2, .ref a42], (mk B43), B43.kc, B43.kn)) rfl ?_
      obtain ⟨uh44, h44, hr⟩ := bd_some hr
      obtain ⟨⟨a46, B47⟩, h45, hr⟩ := bd_some hr
      refine x_cW (m_335 h45) rfl rfl rfl rfl (am_recv_c h44 (.inl rfl)) (by omega) ?_
      refine x_b 1 (S2 := (70, [some (.ref x0), some (.ref x1), some (.int x2), some (.int x3), none], [.int 32, .ref a46], (mk B47), B47.kc, B47.kn)) rfl ?_
      obtain ⟨uh48, h48, hr⟩ := bd_some hr
      obtain ⟨⟨a50, B51⟩, h49, hr⟩ := bd_some hr
      refine x_cW (m_334 h49) rfl rfl rfl rfl (am_recv_c h48 (.inl rfl)) (by omega) ?_
      refine x_b 1 (S2 := (74, [some (.ref x0), some (.ref x1), some (.int x2), some (.int x3), none], [.int x3, .ref a50], (mk B51), B51.kc, B51.kn)) rfl ?_
      obtain ⟨uh52, h52, hr⟩ := bd_some hr
      obtain ⟨⟨a54, B55⟩, h53, hr⟩ := bd_some hr
      refine x_cW (m_335 h53) rfl rfl rfl rfl (am_recv_c h52 (.inl rfl)) (by omega) ?_
      refine x_b 1 (S2 := (78, [some (.ref x0), some (.ref x1), some (.int x2), some (.int x3), none], [], (mk B55), B55.kc, B55.kn)) rfl ?_
      refine x_fg (Lq.s (Lq.s (Lq.s (Lq.s (Lq.s Lq.nil))))) ?_
      exact j_310_42_j78 hd hr ka kx
def G_310_32 (x0 : Nat) (x1 : Nat) (s : Int32 × Wd) : Option ((Int32 × Wd) ⊕ (Wd)) := 
  match s with
  | (x2, B) =>
    (B.gI x0 7 0).bind fun v29 =>
    if v29 ≤ x2 then
      some (.inr B)
    else
      (lw (G_310_42 x0 x1 x2) 200000 (0, B)).bind fun B57 =>
      some (.inl ((x2 + 1), B57))
set_option maxRecDepth 200000 in
theorem g_310_32 {d : Nat} (hd : 9 ≤ d) {scr : ASc} {res : ARe} {x0 : Nat} {x1 : Nat} {s : Int32 × Wd} {o : (Int32 × Wd) ⊕ (Wd)} (hr : G_310_32 x0 x1 s = some o) (ka : ∀ s, o = .inl s → Ex d am_M310 scr (P_310_32 x0 x1 s) res) (kx : ∀ s, o = .inr s → Ex d am_M310 scr (PX_310_32 x0 x1 s) res) : Ex d am_M310 scr (P_310_32 x0 x1 s) res := by
  obtain ⟨x2, B⟩ := s
  delta G_310_32 at hr
  show Ex d am_M310 scr (32, [some (.ref x0), some (.ref x1), some (.int x2), none, none], [], (mk B), B.kc, B.kn) res
  refine x_b 2 (S2 := (34, [some (.ref x0), some (.ref x1), some (.int x2), none, none], [.ref x0, .int x2], (mk B), B.kc, B.kn)) rfl ?_
  obtain ⟨v29, h30, hr⟩ := bd_some hr
  refine x_gI rfl rfl h30 ?_
  rcases ite_some hr with ⟨h31, hr⟩ | ⟨h31, hr⟩
  · refine x_ct rfl rfl (decide_eq_true h31) ?_
    refine x_fg (Lq.s (Lq.s (Lq.n (Lq.s (Lq.s Lq.nil))))) ?_
    exact kx B (Option.some.inj hr).symm
  · refine x_cf rfl rfl (decide_eq_false h31) ?_
    refine x_b 2 (S2 := (42, [some (.ref x0), some (.ref x1), some (.int x2), some (.int 0), none], [], (mk B), B.kc, B.kn)) rfl ?_
    refine x_fg (Lq.s (Lq.s (Lq.s (Lq.s (Lq.s Lq.nil))))) ?_
    obtain ⟨B57, h56, hr⟩ := bd_some hr
    refine x_lw (P := P_310_42 x0 x1 x2) (Q := fun x => Ex d am_M310 scr (PX_310_42 x0 x1 x2 x) res) (fun s o h1 ka kx => g_310_42 hd h1 ka kx) _ (0, B) _ h56 ?_
    show Ex d am_M310 scr (84, [some (.ref x0), some (.ref x1), some (.int x2), none, none], [], (mk B57), B57.kc, B57.kn) res
    refine x_b 2 (S2 := (32, [some (.ref x0), some (.ref x1), some (.int (x2 + 1)), none, none], [], (mk B57), B57.kc, B57.kn)) rfl ?_
    refine x_fg (Lq.s (Lq.s (Lq.s (Lq.s (Lq.s Lq.nil))))) ?_
    exact ka ((x2 + 1), B57) (Option.some.inj hr).symm
abbrev P_310_92 (x0 : Nat) (x1 : Nat) (s : Int32 × Wd) : ASt := (92, [some (.ref x0), some (.ref x1), some (.int s.1), none, none], [], (mk s.2), Wd.kc s.2, Wd.kn s.2)
abbrev PX_310_92 (x0 : Nat) (x1 : Nat) (s : Wd) : ASt := (140, [some (.ref x0), some (.ref x1), none, none, none], [], (mk s), Wd.kc s, Wd.kn s)
def J_310_92_j134 (B : Wd) (x0 : Nat) (x1 : Nat) (x2 : Int32) : Option ((Int32 × Wd) ⊕ (Wd)) :=
  some (.inl ((x2 + 1), B))
set_option maxRecDepth 200000 in
theorem j_310_92_j134 {d : Nat} (hd : 9 ≤ d) {scr : ASc} {res : ARe} {B : Wd} {x0 : Nat} {x1 : Nat} {x2 : Int32} {o : (Int32 × Wd) ⊕ (Wd)} (hr : J_310_92_j134 B x0 x1 x2 = some o) (ka : ∀ s, o = .inl s → Ex d am_M310 scr (P_310_92 x0 x1 s) res) (kx : ∀ s, o = .inr s → Ex d am_M310 scr (PX_310_92 x0 x1 s) res) : Ex d am_M310 scr (134, [some (.ref x0), some (.ref x1), some (.int x2), none, none], [], (mk B), B.kc, B.kn) res := by
  delta J_310_92_j134 at hr
  refine x_b 2 (S2 := (92, [some (.ref x0), some (.ref x1), some (.int (x2 + 1)), none, none], [], (mk B), B.kc, B.kn)) rfl ?_
  refine x_fg (Lq.s (Lq.s (Lq.s (Lq.s (Lq.s Lq.nil))))) ?_
  exact ka ((x2 + 1), B) (Option.some.inj hr).symm
def G_310_92 (x0 : Nat) (x1 : Nat) (s : Int32 × Wd) : Option ((Int32 × Wd) ⊕ (Wd)) := 
  match s with
  | (x2, B) =>
    (B.gI x0 7 0).bind fun v62 =>
    if v62 ≤ x2 then
      some (.inr B)
    else
      (B.gR x0 7 2).bind fun v65 =>
      (B.aI v65 x2).bind fun v67 =>
      if v67 ≤ 0 then
        J_310_92_j134 B x0 x1 x2
      else
        (B.rc x1 9).bind fun _ =>
        (F_333 B x1 (am_SB + 10 + 2 * 25)).bind fun (a72, B73) =>
        (B73.rc a72 9).bind fun _ =>
        (F_335 B73 a72 x2).bind fun (a76, B77) =>
        (B77.rc a76 9).bind fun _ =>
        (F_334 B77 a76 32).bind fun (a80, B81) =>
        (B81.gR x0 7 2).bind fun v82 =>
        (B81.aI v82 x2).bind fun v84 =>
        (B81.rc a80 9).bind fun _ =>
        (F_335 B81 a80 v84).bind fun (a88, B89) =>
        J_310_92_j134 B89 x0 x1 x2
set_option maxRecDepth 200000 in
theorem g_310_92 {d : Nat} (hd : 9 ≤ d) {scr : ASc} {res : ARe} {x0 : Nat} {x1 : Nat} {s : Int32 × Wd} {o : (Int32 × Wd) ⊕ (Wd)} (hr : G_310_92 x0 x1 s = some o) (ka : ∀ s, o = .inl s → Ex d am_M310 scr (P_310_92 x0 x1 s) res) (kx : ∀ s, o = .inr s → Ex d am_M310 scr (PX_310_92 x0 x1 s) res) : Ex d am_M310 scr (P_310_92 x0 x1 s) res := by
  obtain ⟨x2, B⟩ := s
  delta G_310_92 at hr
  show Ex d am_M310 scr (92, [some (.ref x0), some (.ref x1), some (.int x2), none, none], [], (mk B), B.kc, B.kn) res
  refine x_b 2 (S2 := (94, [some (.ref x0), some (.ref x1), some (.int x2), none, none], [.ref x0, .int x2], (mk B), B.kc, B.kn)) rfl ?_
  obtain ⟨v62, h63, hr⟩ := bd_some hr
  refine x_gI rfl rfl h63 ?_
  rcases ite_some hr with ⟨h64, hr⟩ | ⟨h64, hr⟩
  · refine x_ct rfl rfl (decide_eq_true h64) ?_
    refine x_fg (Lq.s (Lq.s (Lq.n (Lq.s (Lq.s Lq.nil))))) ?_
    exact kx B (Option.some.inj hr).symm
  · refine x_cf rfl rfl (decide_eq_false h64) ?_
    refine x_b 1 (S2 := (101, [some (.ref x0), some (.ref x1), some (.int x2), none, none], [.ref x0], (mk B), B.kc, B.kn)) rfl ?_
    obtain ⟨v65, h66, hr⟩ := bd_some hr
    refine x_gR rfl rfl h66 ?_
    refine x_b 1 (S2 := (105, [some (.ref x0), some (.ref x1), some (.int x2), none, none], [.int x2, .ref v65], (mk B), B.kc, B.kn)) rfl ?_
    obtain ⟨v67, h68, hr⟩ := bd_some hr
    refine x_aI rfl rfl h68 ?_
    rcases ite_some hr with ⟨h69, hr⟩ | ⟨h69, hr⟩
    · refine x_zt rfl rfl (decide_eq_true h69) ?_
      refine x_fg (Lq.s (Lq.s (Lq.s (Lq.s (Lq.s Lq.nil))))) ?_
      exact j_310_92_j134 hd hr ka kx
    · refine x_zf rfl rfl (decide_eq_false h69) ?_
      refine x_b 2 (S2 := (112, [some (.ref x0), some (.ref x1), some (.int x2), none, none], [.ref (am_SB + 10 + 2 * 25), .ref x1], (mk B), B.kc, B.kn)) rfl ?_
      obtain ⟨uh70, h70, hr⟩ := bd_some hr
      obtain ⟨⟨a72, B73⟩, h71, hr⟩ := bd_some hr
      refine x_cW (m_333 h71) rfl rfl rfl rfl (am_recv_c h70 (.inl rfl)) (by omega) ?_
      refine x_b 1 (S2 := (116, [some (.ref x0), some (.ref x1), some (.int x2), none, none], [.int x2, .ref a72], (mk B73), B73.kc, B73.kn)) rfl ?_
      obtain ⟨uh74, h74, hr⟩ := bd_some hr
      obtain ⟨⟨a76, B77⟩, h75, hr⟩ := bd_some hr
      refine x_cW (m_335 h75) rfl rfl rfl rfl (am_recv_c h74 (.inl rfl)) (by omega) ?_
      refine x_b 1 (S2 := (121, [some (.ref x0), some (.ref x1), some (.int x2), none, none], [.int 32, .ref a76], (mk B77), B77.kc, B77.kn)) rfl ?_
      obtain ⟨uh78, h78, hr⟩ := bd_some hr
      obtain ⟨⟨a80, B81⟩, h79, hr⟩ := bd_some hr
      refine x_cW (m_334 h79) rfl rfl rfl rfl (am_recv_c h78 (.inl rfl)) (by omega) ?_
      refine x_b 1 (S2 := (125, [some (.ref x0), some (.ref x1), some (.int x2), none, none], [.ref x0, .ref a80], (mk B81), B81.kc, B81.kn)) rfl ?_
      obtain ⟨v82, h83, hr⟩ := bd_some hr
      refine x_gR rfl rfl h83 ?_
      refine x_b 1 (S2 := (129, [some (.ref x0), some (.ref x1), some (.int x2), none, none], [.int x2, .ref v82, .ref a80], (mk B81), B81.kc, B81.kn)) rfl ?_
      obtain ⟨v84, h85, hr⟩ := bd_some hr
      refine x_aI rfl rfl h85 ?_
      obtain ⟨uh86, h86, hr⟩ := bd_some hr
      obtain ⟨⟨a88, B89⟩, h87, hr⟩ := bd_some hr
      refine x_cW (m_335 h87) rfl rfl rfl rfl (am_recv_c h86 (.inl rfl)) (by omega) ?_
      refine x_b 1 (S2 := (134, [some (.ref x0), some (.ref x1), some (.int x2), none, none], [], (mk B89), B89.kc, B89.kn)) rfl ?_
      refine x_fg (Lq.s (Lq.s (Lq.s (Lq.s (Lq.s Lq.nil))))) ?_
      exact j_310_92_j134 hd hr ka kx
abbrev P_310_148 (x0 : Nat) (x1 : Nat) (x2 : Nat) (s : Wd) : ASt := (148, [some (.ref x0), some (.ref x1), some (.ref x2), none, none], [], (mk s), Wd.kc s, Wd.kn s)
abbrev PX_310_148 (x0 : Nat) (x1 : Nat) (x2 : Nat) (s : Wd) : ASt := (253, [none, some (.ref x1), none, none, none], [], (mk s), Wd.kc s, Wd.kn s)
abbrev P_310_183 (x0 : Nat) (x1 : Nat) (x2 : Nat) (x3 : Nat) (s : Int32 × Wd) : ASt := (183, [some (.ref x0), some (.ref x1), some (.ref x2), some (.ref x3), some (.int s.1)], [], (mk s.2), Wd.kc s.2, Wd.kn s.2)
abbrev PX_310_183 (x0 : Nat) (x1 : Nat) (x2 : Nat) (x3 : Nat) (s : Wd) : ASt := (250, [some (.ref x0), some (.ref x1), some (.ref x2), none, none], [], (mk s), Wd.kc s, Wd.kn s)
def J_310_183_j244 (B : Wd) (x0 : Nat) (x1 : Nat) (x2 : Nat) (x3 : Nat) (x4 : Int32) : Option ((Int32 × Wd) ⊕ (Wd)) :=
  some (.inl ((x4 + 1), B))
set_option maxRecDepth 200000 in
theorem j_310_183_j244 {d : Nat} (hd : 9 ≤ d) {scr : ASc} {res : ARe} {B : Wd} {x0 : Nat} {x1 : Nat} {x2 : Nat} {x3 : Nat} {x4 : Int32} {o : (Int32 × Wd) ⊕ (Wd)} (hr : J_310_183_j244 B x0 x1 x2 x3 x4 = some o) (ka : ∀ s, o = .inl s → Ex d am_M310 scr (P_310_183 x0 x1 x2 x3 s) res) (kx : ∀ s, o = .inr s → Ex d am_M310 scr (PX_310_183 x0 x1 x2 x3 s) res) : Ex d am_M310 scr (244, [some (.ref x0), some (.ref x1), some (.ref x2), some (.ref x3), some (.int x4)], [], (mk B), B.kc, B.kn) res := by
  delta J_310_183_j244 at hr
  refine x_b 2 (S2 := (183, [some (.ref x0), some (.ref x1), some (.ref x2), some (.ref x3), some (.int (x4 + 1))], [], (mk B), B.kc, B.kn)) rfl ?_
  refine x_fg (Lq.s (Lq.s (Lq.s (Lq.s (Lq.s Lq.nil))))) ?_
  exact ka ((x4 + 1), B) (Option.some.inj hr).symm
def G_310_183 (x0 : Nat) (x1 : Nat) (x2 : Nat) (x3 : Nat) (s : Int32 × Wd) : Option ((Int32 × Wd) ⊕ (Wd)) := 
  match s with
  | (x4, B) =>
    (B.gI x0 7 0).bind fun v118 =>
    if v118 ≤ x4 then
      some (.inr B)
    else
      (B.aI x3 (7 + x4)).bind fun v121 =>
      if v121 = (-1) then
        J_310_183_j244 B x0 x1 x2 x3 x4
      else
        (B.rc x1 9).bind fun _ =>
        (F_334 B x1 32).bind fun (a126, B127) =>
        (B127.rc a126 9).bind fun _ =>
        (F_335 B127 a126 x4).bind fun (a130, B131) =>
        (B131.rc a130 9).bind fun _ =>
        (F_334 B131 a130 32).bind fun (a134, B135) =>
        (B135.aI x3 (7 + x4)).bind fun v136 =>
        (B135.rc a134 9).bind fun _ =>
        (F_335 B135 a134 v136).bind fun (a140, B141) =>
        (B141.rc a140 9).bind fun _ =>
        (F_334 B141 a140 32).bind fun (a144, B145) =>
        (B145.aI x3 (1 + x4)).bind fun v146 =>
        (B145.rc a144 9).bind fun _ =>
        (F_335 B145 a144 v146).bind fun (a150, B151) =>
        J_310_183_j244 B151 x0 x1 x2 x3 x4
set_option maxRecDepth 200000 in
theorem g_310_183 {d : Nat} (hd : 9 ≤ d) {scr : ASc} {res : ARe} {x0 : Nat} {x1 : Nat} {x2 : Nat} {x3 : Nat} {s : Int32 × Wd} {o : (Int32 × Wd) ⊕ (Wd)} (hr : G_310_183 x0 x1 x2 x3 s = some o) (ka : ∀ s, o = .inl s → Ex d am_M310 scr (P_310_183 x0 x1 x2 x3 s) res) (kx : ∀ s, o = .inr s → Ex d am_M310 scr (PX_310_183 x0 x1 x2 x3 s) res) : Ex d am_M310 scr (P_310_183 x0 x1 x2 x3 s) res := by
  obtain ⟨x4, B⟩ := s
  delta G_310_183 at hr
  show Ex d am_M310 scr (183, [some (.ref x0), some (.ref x1), some (.ref x2), some (.ref x3), some (.int x4)], [], (mk B), B.kc, B.kn) res
  refine x_b 2 (S2 := (186, [some (.ref x0), some (.ref x1), some (.ref x2), some (.ref x3), some (.int x4)], [.ref x0, .int x4], (mk B), B.kc, B.kn)) rfl ?_
  obtain ⟨v118, h119, hr⟩ := bd_some hr
  refine x_gI rfl rfl h119 ?_
  rcases ite_some hr with ⟨h120, hr⟩ | ⟨h120, hr⟩
  · refine x_ct rfl rfl (decide_eq_true h120) ?_
    refine x_fg (Lq.s (Lq.s (Lq.s (Lq.n (Lq.n Lq.nil))))) ?_
    exact kx B (Option.some.inj hr).symm
  · refine x_cf rfl rfl (decide_eq_false h120) ?_
    refine x_b 4 (S2 := (198, [some (.ref x0), some (.ref x1), some (.ref x2), some (.ref x3), some (.int x4)], [.int (7 + x4), .ref x3], (mk B), B.kc, B.kn)) rfl ?_
    obtain ⟨v121, h122, hr⟩ := bd_some hr
    refine x_aI rfl rfl h122 ?_
    refine x_b 1 (S2 := (200, [some (.ref x0), some (.ref x1), some (.ref x2), some (.ref x3), some (.int x4)], [.int (-1), .int v121], (mk B), B.kc, B.kn)) rfl ?_
    rcases ite_some hr with ⟨h123, hr⟩ | ⟨h123, hr⟩
    · refine x_ct rfl rfl (decide_eq_true h123) ?_
      refine x_fg (Lq.s (Lq.s (Lq.s (Lq.s (Lq.s Lq.nil))))) ?_
      exact j_310_183_j244 hd hr ka kx
    · refine x_cf rfl rfl (decide_eq_false h123) ?_
      refine x_b 2 (S2 := (206, [some (.ref x0), some (.ref x1), some (.ref x2), some (.ref x3), some (.int x4)], [.int 32, .ref x1], (mk B), B.kc, B.kn)) rfl ?_
      obtain ⟨uh124, h124, hr⟩ := bd_some hr
      obtain ⟨⟨a126, B127⟩, h125, hr⟩ := bd_some hr
      refine x_cW (m_334 h125) rfl rfl rfl rfl (am_recv_c h124 (.inl rfl)) (by omega) ?_
      refine x_b 1 (S2 := (211, [some (.ref x0), some (.ref x1), some (.ref x2), some (.ref x3), some (.int x4)], [.int x4, .ref a126], (mk B127), B127.kc, B127.kn)) rfl ?_
      obtain ⟨uh128, h128, hr⟩ := bd_some hr
      obtain ⟨⟨a130, B131⟩, h129, hr⟩ := bd_some hr
      refine x_cW (m_335 h129) rfl rfl rfl rfl (am_recv_c h128 (.inl rfl)) (by omega) ?_
      refine x_b 1 (S2 := (216, [some (.ref x0), some (.ref x1), some (.ref x2), some (.ref x3), some (.int x4)], [.int 32, .ref a130], (mk B131), B131.kc, B131.kn)) rfl ?_
      obtain ⟨uh132, h132, hr⟩ := bd_some hr
      obtain ⟨⟨a134, B135⟩, h133, hr⟩ := bd_some hr
      refine x_cW (m_334 h133) rfl rfl rfl rfl (am_recv_c h132 (.inl rfl)) (by omega) ?_
      refine x_b 4 (S2 := (225, [some (.ref x0), some (.ref x1), some (.ref x2), some (.ref x3), some (.int x4)], [.int (7 + x4), .ref x3, .ref a134], (mk B135), B135.kc, B135.kn)) rfl ?_
      obtain ⟨v136, h137, hr⟩ := bd_some hr
      refine x_aI rfl rfl h137 ?_
      obtain ⟨uh138, h138, hr⟩ := bd_some hr
      obtain ⟨⟨a140, B141⟩, h139, hr⟩ := bd_some hr
      refine x_cW (m_335 h139) rfl rfl rfl rfl (am_recv_c h138 (.inl rfl)) (by omega) ?_
      refine x_b 1 (S2 := (231, [some (.ref x0), some (.ref x1), some (.ref x2), some (.ref x3), some (.int x4)], [.int 32, .ref a140], (mk B141), B141.kc, B141.kn)) rfl ?_
      obtain ⟨uh142, h142, hr⟩ := bd_some hr
      obtain ⟨⟨a144, B145⟩, h143, hr⟩ := bd_some hr
      refine x_cW (m_334 h143) rfl rfl rfl rfl (am_recv_c h142 (.inl rfl)) (by omega) ?_
      refine x_b 4 (S2 := (239, [some (.ref x0), some (.ref x1), some (.ref x2), some (.ref x3), some (.int x4)], [.int (1 + x4), .ref x3, .ref a144], (mk B145), B145.kc, B145.kn)) rfl ?_
      obtain ⟨v146, h147, hr⟩ := bd_some hr
      refine x_aI rfl rfl h147 ?_
      obtain ⟨uh148, h148, hr⟩ := bd_some hr
      obtain ⟨⟨a150, B151⟩, h149, hr⟩ := bd_some hr
      refine x_cW (m_335 h149) rfl rfl rfl rfl (am_recv_c h148 (.inl rfl)) (by omega) ?_
      refine x_b 1 (S2 := (244, [some (.ref x0), some (.ref x1), some (.ref x2), some (.ref x3), some (.int x4)], [], (mk B151), B151.kc, B151.kn)) rfl ?_
      refine x_fg (Lq.s (Lq.s (Lq.s (Lq.s (Lq.s Lq.nil))))) ?_
      exact j_310_183_j244 hd hr ka kx
def G_310_148 (x0 : Nat) (x1 : Nat) (x2 : Nat) (s : Wd) : Option ((Wd) ⊕ (Wd)) := 
  match s with
  | B =>
    (B.rc x2 11).bind fun _ =>
    (F_343 B x2).bind fun v101 =>
    if v101 = 0 then
      some (.inr B)
    else
      (B.rc x2 11).bind fun _ =>
      (F_344 B x2).bind fun (a105, B106) =>
      (B106.ra a105 0).bind fun _ =>
      (B106.rc x1 9).bind fun _ =>
      (F_333 B106 x1 (am_SB + 10 + 2 * 26)).bind fun (a110, B111) =>
      (B111.aI a105 0).bind fun v112 =>
      (B111.rc a110 9).bind fun _ =>
      (F_335 B111 a110 v112).bind fun (a116, B117) =>
      (lw (G_310_183 x0 x1 x2 a105) 200000 (0, B117)).bind fun B153 =>
      some (.inl B153)
set_option maxRecDepth 200000 in
theorem g_310_148 {d : Nat} (hd : 9 ≤ d) {scr : ASc} {res : ARe} {x0 : Nat} {x1 : Nat} {x2 : Nat} {s : Wd} {o : (Wd) ⊕ (Wd)} (hr : G_310_148 x0 x1 x2 s = some o) (ka : ∀ s, o = .inl s → Ex d am_M310 scr (P_310_148 x0 x1 x2 s) res) (kx : ∀ s, o = .inr s → Ex d am_M310 scr (PX_310_148 x0 x1 x2 s) res) : Ex d am_M310 scr (P_310_148 x0 x1 x2 s) res := by
  delta G_310_148 at hr
  show Ex d am_M310 scr (148, [some (.ref x0), some (.ref x1), some (.ref x2), none, none], [], (mk s), s.kc, s.kn) res
  refine x_b 1 (S2 := (149, [some (.ref x0), some (.ref x1), some (.ref x2), none, none], [.ref x2], (mk s), s.kc, s.kn)) rfl ?_
  obtain ⟨uh99, h99, hr⟩ := bd_some hr
  obtain ⟨v101, h100, hr⟩ := bd_some hr
  refine x_cI (m_343 h100) rfl rfl rfl rfl (am_recv_i h99 rfl) (by omega) ?_
  rcases ite_some hr with ⟨h102, hr⟩ | ⟨h102, hr⟩
  · refine x_zt rfl rfl (decide_eq_true h102) ?_
    refine x_fg (Lq.n (Lq.s (Lq.n (Lq.s (Lq.s Lq.nil))))) ?_
    exact kx s (Option.some.inj hr).symm
  · refine x_zf rfl rfl (decide_eq_false h102) ?_
    refine x_b 1 (S2 := (158, [some (.ref x0), some (.ref x1), some (.ref x2), none, none], [.ref x2], (mk s), s.kc, s.kn)) rfl ?_
    obtain ⟨uh103, h103, hr⟩ := bd_some hr
    obtain ⟨⟨a105, B106⟩, h104, hr⟩ := bd_some hr
    refine x_cI (m_344 h104) rfl rfl rfl rfl (am_recv_i h103 rfl) (by omega) ?_
    obtain ⟨uh107, h107, hr⟩ := bd_some hr
    refine x_ckA (t := 0) rfl rfl h107 ?_
    refine x_b 3 (S2 := (170, [some (.ref x0), some (.ref x1), some (.ref x2), some (.ref a105), none], [.ref (am_SB + 10 + 2 * 26), .ref x1], (mk B106), B106.kc, B106.kn)) rfl ?_
    obtain ⟨uh108, h108, hr⟩ := bd_some hr
    obtain ⟨⟨a110, B111⟩, h109, hr⟩ := bd_some hr
    refine x_cW (m_333 h109) rfl rfl rfl rfl (am_recv_c h108 (.inl rfl)) (by omega) ?_
    refine x_b 2 (S2 := (175, [some (.ref x0), some (.ref x1), some (.ref x2), some (.ref a105), none], [.int 0, .ref a105, .ref a110], (mk B111), B111.kc, B111.kn)) rfl ?_
    obtain ⟨v112, h113, hr⟩ := bd_some hr
    refine x_aI rfl rfl h113 ?_
    obtain ⟨uh114, h114, hr⟩ := bd_some hr
    obtain ⟨⟨a116, B117⟩, h115, hr⟩ := bd_some hr
    refine x_cW (m_335 h115) rfl rfl rfl rfl (am_recv_c h114 (.inl rfl)) (by omega) ?_
    refine x_b 3 (S2 := (183, [some (.ref x0), some (.ref x1), some (.ref x2), some (.ref a105), some (.int 0)], [], (mk B117), B117.kc, B117.kn)) rfl ?_
    refine x_fg (Lq.s (Lq.s (Lq.s (Lq.s (Lq.s Lq.nil))))) ?_
    obtain ⟨B153, h152, hr⟩ := bd_some hr
    refine x_lw (P := P_310_183 x0 x1 x2 a105) (Q := fun x => Ex d am_M310 scr (PX_310_183 x0 x1 x2 a105 x) res) (fun s o h1 ka kx => g_310_183 hd h1 ka kx) _ (0, B117) _ h152 ?_
    show Ex d am_M310 scr (250, [some (.ref x0), some (.ref x1), some (.ref x2), none, none], [], (mk B153), B153.kc, B153.kn) res
    refine x_b 1 (S2 := (148, [some (.ref x0), some (.ref x1), some (.ref x2), none, none], [], (mk B153), B153.kc, B153.kn)) rfl ?_
    refine x_fg (Lq.s (Lq.s (Lq.s (Lq.s (Lq.s Lq.nil))))) ?_
    exact ka B153 (Option.some.inj hr).symm
/-- PebbleProofsLaw$Yard.text()Ljava/lang/String; -/
def F_310 (B : Wd) (x0 : Nat) : Option (Nat × Wd) :=
  (B.nO 9).bind fun (a1, B2) =>
  (B2.nO 9).bind fun (a4, B5) =>
  (if a4 < am_SB then some () else none).bind fun _ =>
  (F_331 B5 a4).bind fun B10 =>
  (B10.rc a4 9).bind fun _ =>
  (F_333 B10 a4 (am_SB + 10 + 2 * 23)).bind fun (a13, B14) =>
  (B14.gI x0 7 0).bind fun v15 =>
  (B14.rc a13 9).bind fun _ =>
  (F_335 B14 a13 v15).bind fun (a19, B20) =>
  (B20.rc a19 9).bind fun _ =>
  (F_336 B20 a19).bind fun (a23, B24) =>
  (if a1 < am_SB then some () else none).bind fun _ =>
  (F_332 B24 a1 a23).bind fun B28 =>
  (lw (G_310_32 x0 a1) 200000 (0, B28)).bind fun B60 =>
  (lw (G_310_92 x0 a1) 200000 (0, B60)).bind fun B91 =>
  (B91.gR x0 7 4).bind fun v93 =>
  (B91.rc v93 10).bind fun _ =>
  (F_358 B91 v93).bind fun (a97, B98) =>
  (lw (G_310_148 x0 a1 a97) 200000 B98).bind fun B156 =>
  (B156.rc a1 9).bind fun _ =>
  (F_336 B156 a1).bind fun (a160, B161) =>
  (if a160 < am_SB then some () else none).bind fun _ =>
  some (a160, B161)
set_option maxRecDepth 200000 in
theorem f_310 {d : Nat} (hd : 9 ≤ d) {scr : ASc} {res : ARe} {B : Wd} {x0 : Nat} {o : Nat × Wd} (hr : F_310 B x0 = some o) (kr : res = (.inl (some (.ref o.1)), mk o.2, Wd.kc o.2, Wd.kn o.2)) : Ex d am_M310 scr (0, [some (.ref x0), none, none, none, none], [], (mk B), B.kc, B.kn) res := by
  delta F_310 at hr
  obtain ⟨⟨a1, B2⟩, h3, hr⟩ := bd_some hr
  refine x_nO rfl rfl h3 ?_
  refine x_b 1 (S2 := (4, [some (.ref x0), none, none, none, none], [.ref a1, .ref a1], (mk B2), B2.kc, B2.kn)) rfl ?_
  obtain ⟨⟨a4, B5⟩, h6, hr⟩ := bd_some hr
  refine x_nO rfl rfl h6 ?_
  refine x_b 1 (S2 := (8, [some (.ref x0), none, none, none, none], [.ref a4, .ref a4, .ref a1, .ref a1], (mk B5), B5.kc, B5.kn)) rfl ?_
  obtain ⟨uh8, h8, hr⟩ := bd_some hr
  obtain ⟨h7, -⟩ := itn_some h8
  obtain ⟨B10, h9, hr⟩ := bd_some hr
  refine x_cW (m_331 h9) rfl rfl rfl rfl (am_recv_p h7 (by decide)) (by omega) ?_
  refine x_b 1 (S2 := (13, [some (.ref x0), none, none, none, none], [.ref (am_SB + 10 + 2 * 23), .ref a4, .ref a1, .ref a1], (mk B10), B10.kc, B10.kn)) rfl ?_
  obtain ⟨uh11, h11, hr⟩ := bd_some hr
  obtain ⟨⟨a13, B14⟩, h12, hr⟩ := bd_some hr
  refine x_cW (m_333 h12) rfl rfl rfl rfl (am_recv_c h11 (.inl rfl)) (by omega) ?_
  refine x_b 1 (S2 := (17, [some (.ref x0), none, none, none, none], [.ref x0, .ref a13, .ref a1, .ref a1], (mk B14), B14.kc, B14.kn)) rfl ?_
  obtain ⟨v15, h16, hr⟩ := bd_some hr
  refine x_gI rfl rfl h16 ?_
  obtain ⟨uh17, h17, hr⟩ := bd_some hr
  obtain ⟨⟨a19, B20⟩, h18, hr⟩ := bd_some hr
  refine x_cW (m_335 h18) rfl rfl rfl rfl (am_recv_c h17 (.inl rfl)) (by omega) ?_
  obtain ⟨uh21, h21, hr⟩ := bd_some hr
  obtain ⟨⟨a23, B24⟩, h22, hr⟩ := bd_some hr
  refine x_cW (m_336 h22) rfl rfl rfl rfl (am_recv_c h21 (.inl rfl)) (by omega) ?_
  obtain ⟨uh26, h26, hr⟩ := bd_some hr
  obtain ⟨h25, -⟩ := itn_some h26
  obtain ⟨B28, h27, hr⟩ := bd_some hr
  refine x_cW (m_332 h27) rfl rfl rfl rfl (am_recv_p h25 (by decide)) (by omega) ?_
  refine x_b 3 (S2 := (32, [some (.ref x0), some (.ref a1), some (.int 0), none, none], [], (mk B28), B28.kc, B28.kn)) rfl ?_
  refine x_fg (Lq.s (Lq.s (Lq.s (Lq.s (Lq.s Lq.nil))))) ?_
  obtain ⟨B60, h59, hr⟩ := bd_some hr
  refine x_lw (P := P_310_32 x0 a1) (Q := fun x => Ex d am_M310 scr (PX_310_32 x0 a1 x) res) (fun s o h1 ka kx => g_310_32 hd h1 ka kx) _ (0, B28) _ h59 ?_
  show Ex d am_M310 scr (90, [some (.ref x0), some (.ref a1), none, none, none], [], (mk B60), B60.kc, B60.kn) res
  refine x_b 2 (S2 := (92, [some (.ref x0), some (.ref a1), some (.int 0), none, none], [], (mk B60), B60.kc, B60.kn)) rfl ?_
  refine x_fg (Lq.s (Lq.s (Lq.s (Lq.s (Lq.s Lq.nil))))) ?_
  obtain ⟨B91, h90, hr⟩ := bd_some hr
  refine x_lw (P := P_310_92 x0 a1) (Q := fun x => Ex d am_M310 scr (PX_310_92 x0 a1 x) res) (fun s o h1 ka kx => g_310_92 hd h1 ka kx) _ (0, B60) _ h90 ?_
  show Ex d am_M310 scr (140, [some (.ref x0), some (.ref a1), none, none, none], [], (mk B91), B91.kc, B91.kn) res
  refine x_b 1 (S2 := (141, [some (.ref x0), some (.ref a1), none, none, none], [.ref x0], (mk B91), B91.kc, B91.kn)) rfl ?_
  obtain ⟨v93, h94, hr⟩ := bd_some hr
  refine x_gR rfl rfl h94 ?_
  obtain ⟨uh95, h95, hr⟩ := bd_some hr
  obtain ⟨⟨a97, B98⟩, h96, hr⟩ := bd_some hr
  refine x_cW (m_358 h96) rfl rfl rfl rfl (am_recv_c h95 (.inl rfl)) (by omega) ?_
  refine x_b 1 (S2 := (148, [some (.ref x0), some (.ref a1), some (.ref a97), none, none], [], (mk B98), B98.kc, B98.kn)) rfl ?_
  refine x_fg (Lq.s (Lq.s (Lq.s (Lq.s (Lq.s Lq.nil))))) ?_
  obtain ⟨B156, h155, hr⟩ := bd_some hr
  refine x_lw (P := P_310_148 x0 a1 a97) (Q := fun x => Ex d am_M310 scr (PX_310_148 x0 a1 a97 x) res) (fun s o h1 ka kx => g_310_148 hd h1 ka kx) _ B98 _ h155 ?_
  show Ex d am_M310 scr (253, [none, some (.ref a1), none, none, none], [], (mk B156), B156.kc, B156.kn) res
  refine x_b 1 (S2 := (254, [none, some (.ref a1), none, none, none], [.ref a1], (mk B156), B156.kc, B156.kn)) rfl ?_
  obtain ⟨uh158, h158, hr⟩ := bd_some hr
  obtain ⟨⟨a160, B161⟩, h159, hr⟩ := bd_some hr
  refine x_cW (m_336 h159) rfl rfl rfl rfl (am_recv_c h158 (.inl rfl)) (by omega) ?_
  obtain ⟨uh163, h163, hr⟩ := bd_some hr
  obtain ⟨h162, -⟩ := itn_some h163
  cases hr
  rw [kr]
  exact x_ret rfl rfl (am_ret_h h162)
set_option maxRecDepth 200000 in
theorem m_310 {scr : ASc} {B : Wd} {x0 : Nat} {o : Nat × Wd} (hr : F_310 B x0 = some o) : RnW scr 10 310 [.ref x0] B (.inl (some (.ref o.1))) o.2 :=
  x_methW (M := am_M310) rfl (show 1 ≤ 5 by decide) (f_310 (Nat.le_refl _) hr rfl)
abbrev P_311_6 (rf : Wd → Nat → Nat → Nat → Int32 → Option (Int32 × Wd)) (B : Wd) (x0 : Nat) (x1 : Nat) (x2 : Nat) (x3 : Int32) (s : Int32 × Int32) : ASt := (6, [some (.ref x0), some (.ref x1), some (.ref x2), some (.int x3), some (.int s.1), some (.int s.2), none, none], [], (mk B), Wd.kc B, Wd.kn B)
abbrev PX_311_6 (rf : Wd → Nat → Nat → Nat → Int32 → Option (Int32 × Wd)) (B : Wd) (x0 : Nat) (x1 : Nat) (x2 : Nat) (x3 : Int32) (s : Int32) : ASt := (50, [some (.ref x0), some (.ref x1), some (.ref x2), some (.int x3), some (.int s), none, none, none], [], (mk B), Wd.kc B, Wd.kn B)
def G_311_6 (rf : Wd → Nat → Nat → Nat → Int32 → Option (Int32 × Wd)) (B : Wd) (x0 : Nat) (x1 : Nat) (x2 : Nat) (x3 : Int32) (s : Int32 × Int32) : Option ((Int32 × Int32) ⊕ (Int32) ⊕ (Int32 × Wd)) := 
  match s with
  | (x4, x5) =>
    (B.gI x0 7 0).bind fun v1 =>
    if v1 ≤ x5 then
      some (.inr (.inl x4))
    else
      (B.aI x1 x5).bind fun v4 =>
      (B.aI x2 x5).bind fun v6 =>
      if v4 < (1 <<< (v6 &&& 31)) then
        (B.aI x2 x5).bind fun v9 =>
        (B.aI x1 x5).bind fun v11 =>
        some (.inl (((x4 <<< (v9 &&& 31)) + v11), (x5 + 1)))
      else
        some (.inr (.inr (1, B)))
set_option maxRecDepth 200000 in
theorem g_311_6 {d Dr : Nat} {scr : ASc} {rf : Wd → Nat → Nat → Nat → Int32 → Option (Int32 × Wd)} (hrf : ∀ W a b e x o, rf W a b e x = some o → RnW scr Dr 311 [.ref a, .ref b, .ref e, .int x] W (.inl (some (.int o.1))) o.2) (hd : Dr ≤ d) {res : ARe} {B : Wd} {x0 : Nat} {x1 : Nat} {x2 : Nat} {x3 : Int32} {s : Int32 × Int32} {o : (Int32 × Int32) ⊕ (Int32) ⊕ (Int32 × Wd)} (hr : G_311_6 rf B x0 x1 x2 x3 s = some o) (ka : ∀ s, o = .inl s → Ex d am_M311 scr (P_311_6 rf B x0 x1 x2 x3 s) res) (kx : ∀ s, o = .inr (.inl s) → Ex d am_M311 scr (PX_311_6 rf B x0 x1 x2 x3 s) res) (kr : ∀ r, o = .inr (.inr r) → res = (.inl (some (.int r.1)), mk r.2, Wd.kc r.2, Wd.kn r.2)) : Ex d am_M311 scr (P_311_6 rf B x0 x1 x2 x3 s) res := by
  obtain ⟨x4, x5⟩ := s
  delta G_311_6 at hr
  show Ex d am_M311 scr (6, [some (.ref x0), some (.ref x1), some (.ref x2), some (.int x3), some (.int x4), some (.int x5), none, none], [], (mk B), B.kc, B.kn) res
  refine x_b 2 (S2 := (9, [some (.ref x0), some (.ref x1), some (.ref x2), some (.int x3), some (.int x4), some (.int x5), none, none], [.ref x0, .int x5], (mk B), B.kc, B.kn)) rfl ?_
  obtain ⟨v1, h2, hr⟩ := bd_some hr
  refine x_gI rfl rfl h2 ?_
  rcases ite_some hr with ⟨h3, hr⟩ | ⟨h3, hr⟩
  · refine x_ct rfl rfl (decide_eq_true h3) ?_
    refine x_fg (Lq.s (Lq.s (Lq.s (Lq.s (Lq.s (Lq.n (Lq.s (Lq.s Lq.nil)))))))) ?_
    exact kx x4 (Option.some.inj hr).symm
  · refine x_cf rfl rfl (decide_eq_false h3) ?_
    refine x_b 2 (S2 := (18, [some (.ref x0), some (.ref x1), some (.ref x2), some (.int x3), some (.int x4), some (.int x5), none, none], [.int x5, .ref x1], (mk B), B.kc, B.kn)) rfl ?_
    obtain ⟨v4, h5, hr⟩ := bd_some hr
    refine x_aI rfl rfl h5 ?_
    refine x_b 3 (S2 := (23, [some (.ref x0), some (.ref x1), some (.ref x2), some (.int x3), some (.int x4), some (.int x5), none, none], [.int x5, .ref x2, .int 1, .int v4], (mk B), B.kc, B.kn)) rfl ?_
    obtain ⟨v6, h7, hr⟩ := bd_some hr
    refine x_aI rfl rfl h7 ?_
    refine x_b 1 (S2 := (25, [some (.ref x0), some (.ref x1), some (.ref x2), some (.int x3), some (.int x4), some (.int x5), none, none], [.int (1 <<< (v6 &&& 31)), .int v4], (mk B), B.kc, B.kn)) rfl ?_
    rcases ite_some hr with ⟨h8, hr⟩ | ⟨h8, hr⟩
    · refine x_ct rfl rfl (decide_eq_true h8) ?_
      refine x_b 3 (S2 := (35, [some (.ref x0), some (.ref x1), some (.ref x2), some (.int x3), some (.int x4), some (.int x5), none, none], [.int x5, .ref x2, .int x4], (mk B), B.kc, B.kn)) rfl ?_
      obtain ⟨v9, h10, hr⟩ := bd_some hr
      refine x_aI rfl rfl h10 ?_
      refine x_b 3 (S2 := (40, [some (.ref x0), some (.ref x1), some (.ref x2), some (.int x3), some (.int x4), some (.int x5), none, none], [.int x5, .ref x1, .int (x4 <<< (v9 &&& 31))], (mk B), B.kc, B.kn)) rfl ?_
      obtain ⟨v11, h12, hr⟩ := bd_some hr
      refine x_aI rfl rfl h12 ?_
      refine x_b 4 (S2 := (6, [some (.ref x0), some (.ref x1), some (.ref x2), some (.int x3), some (.int ((x4 <<< (v9 &&& 31)) + v11)), some (.int (x5 + 1)), none, none], [], (mk B), B.kc, B.kn)) rfl ?_
      refine x_fg (Lq.s (Lq.s (Lq.s (Lq.s (Lq.s (Lq.s (Lq.s (Lq.s Lq.nil)))))))) ?_
      exact ka (((x4 <<< (v9 &&& 31)) + v11), (x5 + 1)) (Option.some.inj hr).symm
    · refine x_cf rfl rfl (decide_eq_false h8) ?_
      refine x_b 1 (S2 := (29, [some (.ref x0), some (.ref x1), some (.ref x2), some (.int x3), some (.int x4), some (.int x5), none, none], [.int 1], (mk B), B.kc, B.kn)) rfl ?_
      rw [kr _ (Option.some.inj hr).symm]
      exact x_ret rfl rfl (am_ret_z (by decide))
abbrev P_311_83 (rf : Wd → Nat → Nat → Nat → Int32 → Option (Int32 × Wd)) (x0 : Nat) (x1 : Nat) (x2 : Nat) (x3 : Int32) (x4 : Int32) (s : Int32 × Int32 × Wd) : ASt := (83, [some (.ref x0), some (.ref x1), some (.ref x2), some (.int x3), some (.int x4), some (.int s.1), some (.int s.2.1), none], [], (mk s.2.2), Wd.kc s.2.2, Wd.kn s.2.2)
abbrev PX_311_83 (rf : Wd → Nat → Nat → Nat → Int32 → Option (Int32 × Wd)) (x0 : Nat) (x1 : Nat) (x2 : Nat) (x3 : Int32) (x4 : Int32) (s : Int32 × Wd) : ASt := (204, [some (.ref x0), none, none, none, some (.int x4), some (.int s.1), none, none], [], (mk s.2), Wd.kc s.2, Wd.kn s.2)
abbrev P_311_100 (rf : Wd → Nat → Nat → Nat → Int32 → Option (Int32 × Wd)) (x0 : Nat) (x1 : Nat) (x2 : Nat) (x3 : Int32) (x4 : Int32) (x6 : Int32) (s : Int32 × Int32 × Wd) : ASt := (100, [some (.ref x0), some (.ref x1), some (.ref x2), some (.int x3), some (.int x4), some (.int s.1), some (.int x6), some (.int s.2.1)], [], (mk s.2.2), Wd.kc s.2.2, Wd.kn s.2.2)
abbrev PX_311_100 (rf : Wd → Nat → Nat → Nat → Int32 → Option (Int32 × Wd)) (x0 : Nat) (x1 : Nat) (x2 : Nat) (x3 : Int32) (x4 : Int32) (x6 : Int32) (s : Int32 × Wd) : ASt := (198, [some (.ref x0), some (.ref x1), some (.ref x2), some (.int x3), some (.int x4), some (.int s.1), some (.int x6), none], [], (mk s.2), Wd.kc s.2, Wd.kn s.2)
def J_311_100_j192 (rf : Wd → Nat → Nat → Nat → Int32 → Option (Int32 × Wd)) (B : Wd) (x0 : Nat) (x1 : Nat) (x2 : Nat) (x3 : Int32) (x4 : Int32) (x5 : Int32) (x6 : Int32) (x7 : Int32) : Option ((Int32 × Int32 × Wd) ⊕ (Int32 × Wd)) :=
  some (.inl (x5, (x7 + 1), B))
set_option maxRecDepth 200000 in
theorem j_311_100_j192 {d Dr : Nat} {scr : ASc} {rf : Wd → Nat → Nat → Nat → Int32 → Option (Int32 × Wd)} (hrf : ∀ W a b e x o, rf W a b e x = some o → RnW scr Dr 311 [.ref a, .ref b, .ref e, .int x] W (.inl (some (.int o.1))) o.2) (hd : Dr ≤ d) {res : ARe} {B : Wd} {x0 : Nat} {x1 : Nat} {x2 : Nat} {x3 : Int32} {x4 : Int32} {x5 : Int32} {x6 : Int32} {x7 : Int32} {o : (Int32 × Int32 × Wd) ⊕ (Int32 × Wd)} (hr : J_311_100_j192 rf B x0 x1 x2 x3 x4 x5 x6 x7 = some o) (ka : ∀ s, o = .inl s → Ex d am_M311 scr (P_311_100 rf x0 x1 x2 x3 x4 x6 s) res) (kx : ∀ s, o = .inr s → Ex d am_M311 scr (PX_311_100 rf x0 x1 x2 x3 x4 x6 s) res) : Ex d am_M311 scr (192, [some (.ref x0), some (.ref x1), some (.ref x2), some (.int x3), some (.int x4), some (.int x5), some (.int x6), some (.int x7)], [], (mk B), B.kc, B.kn) res := by
  delta J_311_100_j192 at hr
  refine x_b 2 (S2 := (100, [some (.ref x0), some (.ref x1), some (.ref x2), some (.int x3), some (.int x4), some (.int x5), some (.int x6), some (.int (x7 + 1))], [], (mk B), B.kc, B.kn)) rfl ?_
  refine x_fg (Lq.s (Lq.s (Lq.s (Lq.s (Lq.s (Lq.s (Lq.s (Lq.s Lq.nil)))))))) ?_
  exact ka (x5, (x7 + 1), B) (Option.some.inj hr).symm
def G_311_100 (rf : Wd → Nat → Nat → Nat → Int32 → Option (Int32 × Wd)) (x0 : Nat) (x1 : Nat) (x2 : Nat) (x3 : Int32) (x4 : Int32) (x6 : Int32) (s : Int32 × Int32 × Wd) : Option ((Int32 × Int32 × Wd) ⊕ (Int32 × Wd)) := 
  match s with
  | (x5, x7, B) =>
    (B.gI x0 7 0).bind fun v25 =>
    if v25 ≤ x7 then
      some (.inr (x5, B))
    else
      (B.aI x1 x6).bind fun v28 =>
      if v28 ≤ 1 then
        some (.inr (x5, B))
      else
        if ¬ x5 = 0 then
          some (.inr (x5, B))
        else
          (B.gR x0 7 1).bind fun v32 =>
          (B.aR v32 x6).bind fun v34 =>
          (B.aB v34 x7).bind fun v36 =>
          if v36 = 0 then
            J_311_100_j192 rf B x0 x1 x2 x3 x4 x5 x6 x7
          else
            (B.aI x2 x7).bind fun v39 =>
            (B.aI x2 x6).bind fun v41 =>
            if v39 ≤ (v41 + 1) then
              (B.aI x1 x6).bind fun v44 =>
              (B.sI x1 x6 (v44 - 2)).bind fun B46 =>
              (B46.aI x1 x7).bind fun v48 =>
              (B46.sI x1 x7 (v48 + 1)).bind fun B50 =>
              (B50.rc x0 7).bind fun _ =>
              (rf B50 x0 x1 x2 x3).bind fun (v54, B55) =>
              (B55.aI x1 x6).bind fun v56 =>
              (B55.sI x1 x6 (v56 + 2)).bind fun B58 =>
              (B58.aI x1 x7).bind fun v60 =>
              (B58.sI x1 x7 (v60 - 1)).bind fun B62 =>
              J_311_100_j192 rf B62 x0 x1 x2 x3 x4 v54 x6 x7
            else
              J_311_100_j192 rf B x0 x1 x2 x3 x4 x5 x6 x7
set_option maxRecDepth 200000 in
theorem g_311_100 {d Dr : Nat} {scr : ASc} {rf : Wd → Nat → Nat → Nat → Int32 → Option (Int32 × Wd)} (hrf : ∀ W a b e x o, rf W a b e x = some o → RnW scr Dr 311 [.ref a, .ref b, .ref e, .int x] W (.inl (some (.int o.1))) o.2) (hd : Dr ≤ d) {res : ARe} {x0 : Nat} {x1 : Nat} {x2 : Nat} {x3 : Int32} {x4 : Int32} {x6 : Int32} {s : Int32 × Int32 × Wd} {o : (Int32 × Int32 × Wd) ⊕ (Int32 × Wd)} (hr : G_311_100 rf x0 x1 x2 x3 x4 x6 s = some o) (ka : ∀ s, o = .inl s → Ex d am_M311 scr (P_311_100 rf x0 x1 x2 x3 x4 x6 s) res) (kx : ∀ s, o = .inr s → Ex d am_M311 scr (PX_311_100 rf x0 x1 x2 x3 x4 x6 s) res) : Ex d am_M311 scr (P_311_100 rf x0 x1 x2 x3 x4 x6 s) res := by
  obtain ⟨x5, x7, B⟩ := s
  delta G_311_100 at hr
  show Ex d am_M311 scr (100, [some (.ref x0), some (.ref x1), some (.ref x2), some (.int x3), some (.int x4), some (.int x5), some (.int x6), some (.int x7)], [], (mk B), B.kc, B.kn) res
  refine x_b 2 (S2 := (103, [some (.ref x0), some (.ref x1), some (.ref x2), some (.int x3), some (.int x4), some (.int x5), some (.int x6), some (.int x7)], [.ref x0, .int x7], (mk B), B.kc, B.kn)) rfl ?_
  obtain ⟨v25, h26, hr⟩ := bd_some hr
  refine x_gI rfl rfl h26 ?_
  rcases ite_some hr with ⟨h27, hr⟩ | ⟨h27, hr⟩
  · refine x_ct rfl rfl (decide_eq_true h27) ?_
    refine x_fg (Lq.s (Lq.s (Lq.s (Lq.s (Lq.s (Lq.s (Lq.s (Lq.n Lq.nil)))))))) ?_
    exact kx (x5, B) (Option.some.inj hr).symm
  · refine x_cf rfl rfl (decide_eq_false h27) ?_
    refine x_b 2 (S2 := (112, [some (.ref x0), some (.ref x1), some (.ref x2), some (.int x3), some (.int x4), some (.int x5), some (.int x6), some (.int x7)], [.int x6, .ref x1], (mk B), B.kc, B.kn)) rfl ?_
    obtain ⟨v28, h29, hr⟩ := bd_some hr
    refine x_aI rfl rfl h29 ?_
    refine x_b 1 (S2 := (114, [some (.ref x0), some (.ref x1), some (.ref x2), some (.int x3), some (.int x4), some (.int x5), some (.int x6), some (.int x7)], [.int 1, .int v28], (mk B), B.kc, B.kn)) rfl ?_
    rcases ite_some hr with ⟨h30, hr⟩ | ⟨h30, hr⟩
    · refine x_ct rfl rfl (decide_eq_true h30) ?_
      refine x_fg (Lq.s (Lq.s (Lq.s (Lq.s (Lq.s (Lq.s (Lq.s (Lq.n Lq.nil)))))))) ?_
      exact kx (x5, B) (Option.some.inj hr).symm
    · refine x_cf rfl rfl (decide_eq_false h30) ?_
      refine x_b 1 (S2 := (119, [some (.ref x0), some (.ref x1), some (.ref x2), some (.int x3), some (.int x4), some (.int x5), some (.int x6), some (.int x7)], [.int x5], (mk B), B.kc, B.kn)) rfl ?_
      rcases ite_some hr with ⟨h31, hr⟩ | ⟨h31, hr⟩
      · refine x_zt rfl rfl (decide_eq_true h31) ?_
        refine x_fg (Lq.s (Lq.s (Lq.s (Lq.s (Lq.s (Lq.s (Lq.s (Lq.n Lq.nil)))))))) ?_
        exact kx (x5, B) (Option.some.inj hr).symm
      · refine x_zf rfl rfl (decide_eq_false h31) ?_
        refine x_b 1 (S2 := (123, [some (.ref x0), some (.ref x1), some (.ref x2), some (.int x3), some (.int x4), some (.int x5), some (.int x6), some (.int x7)], [.ref x0], (mk B), B.kc, B.kn)) rfl ?_
        obtain ⟨v32, h33, hr⟩ := bd_some hr
        refine x_gR rfl rfl h33 ?_
        refine x_b 1 (S2 := (128, [some (.ref x0), some (.ref x1), some (.ref x2), some (.int x3), some (.int x4), some (.int x5), some (.int x6), some (.int x7)], [.int x6, .ref v32], (mk B), B.kc, B.kn)) rfl ?_
        obtain ⟨v34, h35, hr⟩ := bd_some hr
        refine x_aR rfl rfl h35 ?_
        refine x_b 1 (S2 := (131, [some (.ref x0), some (.ref x1), some (.ref x2), some (.int x3), some (.int x4), some (.int x5), some (.int x6), some (.int x7)], [.int x7, .ref v34], (mk B), B.kc, B.kn)) rfl ?_
        obtain ⟨v36, h37, hr⟩ := bd_some hr
        refine x_aB rfl rfl h37 ?_
        rcases ite_some hr with ⟨h38, hr⟩ | ⟨h38, hr⟩
        · refine x_zt rfl rfl (decide_eq_true h38) ?_
          refine x_fg (Lq.s (Lq.s (Lq.s (Lq.s (Lq.s (Lq.s (Lq.s (Lq.s Lq.nil)))))))) ?_
          exact j_311_100_j192 hrf hd hr ka kx
        · refine x_zf rfl rfl (decide_eq_false h38) ?_
          refine x_b 2 (S2 := (138, [some (.ref x0), some (.ref x1), some (.ref x2), some (.int x3), some (.int x4), some (.int x5), some (.int x6), some (.int x7)], [.int x7, .ref x2], (mk B), B.kc, B.kn)) rfl ?_
          obtain ⟨v39, h40, hr⟩ := bd_some hr
          refine x_aI rfl rfl h40 ?_
          refine x_b 2 (S2 := (142, [some (.ref x0), some (.ref x1), some (.ref x2), some (.int x3), some (.int x4), some (.int x5), some (.int x6), some (.int x7)], [.int x6, .ref x2, .int v39], (mk B), B.kc, B.kn)) rfl ?_
          obtain ⟨v41, h42, hr⟩ := bd_some hr
          refine x_aI rfl rfl h42 ?_
          refine x_b 2 (S2 := (145, [some (.ref x0), some (.ref x1), some (.ref x2), some (.int x3), some (.int x4), some (.int x5), some (.int x6), some (.int x7)], [.int (v41 + 1), .int v39], (mk B), B.kc, B.kn)) rfl ?_
          rcases ite_some hr with ⟨h43, hr⟩ | ⟨h43, hr⟩
          · refine x_ct rfl rfl (decide_eq_true h43) ?_
            refine x_b 3 (S2 := (155, [some (.ref x0), some (.ref x1), some (.ref x2), some (.int x3), some (.int x4), some (.int x5), some (.int x6), some (.int x7)], [.int x6, .ref x1, .int x6, .ref x1], (mk B), B.kc, B.kn)) rfl ?_
            obtain ⟨v44, h45, hr⟩ := bd_some hr
            refine x_aI rfl rfl h45 ?_
            refine x_b 2 (S2 := (158, [some (.ref x0), some (.ref x1), some (.ref x2), some (.int x3), some (.int x4), some (.int x5), some (.int x6), some (.int x7)], [.int (v44 - 2), .int x6, .ref x1], (mk B), B.kc, B.kn)) rfl ?_
            obtain ⟨B46, h47, hr⟩ := bd_some hr
            refine x_sI rfl rfl h47 ?_
            refine x_b 3 (S2 := (163, [some (.ref x0), some (.ref x1), some (.ref x2), some (.int x3), some (.int x4), some (.int x5), some (.int x6), some (.int x7)], [.int x7, .ref x1, .int x7, .ref x1], (mk B46), B46.kc, B46.kn)) rfl ?_
            obtain ⟨v48, h49, hr⟩ := bd_some hr
            refine x_aI rfl rfl h49 ?_
            refine x_b 2 (S2 := (166, [some (.ref x0), some (.ref x1), some (.ref x2), some (.int x3), some (.int x4), some (.int x5), some (.int x6), some (.int x7)], [.int (v48 + 1), .int x7, .ref x1], (mk B46), B46.kc, B46.kn)) rfl ?_
            obtain ⟨B50, h51, hr⟩ := bd_some hr
            refine x_sI rfl rfl h51 ?_
            refine x_b 4 (S2 := (171, [some (.ref x0), some (.ref x1), some (.ref x2), some (.int x3), some (.int x4), some (.int x5), some (.int x6), some (.int x7)], [.int x3, .ref x2, .ref x1, .ref x0], (mk B50), B50.kc, B50.kn)) rfl ?_
            obtain ⟨uh52, h52, hr⟩ := bd_some hr
            obtain ⟨⟨v54, B55⟩, h53, hr⟩ := bd_some hr
            refine x_cW (hrf _ _ _ _ _ _ h53) rfl rfl rfl rfl (am_recv_c h52 (.inl rfl)) (by omega) ?_
            refine x_b 4 (S2 := (180, [some (.ref x0), some (.ref x1), some (.ref x2), some (.int x3), some (.int x4), some (.int v54), some (.int x6), some (.int x7)], [.int x6, .ref x1, .int x6, .ref x1], (mk B55), B55.kc, B55.kn)) rfl ?_
            obtain ⟨v56, h57, hr⟩ := bd_some hr
            refine x_aI rfl rfl h57 ?_
            refine x_b 2 (S2 := (183, [some (.ref x0), some (.ref x1), some (.ref x2), some (.int x3), some (.int x4), some (.int v54), some (.int x6), some (.int x7)], [.int (v56 + 2), .int x6, .ref x1], (mk B55), B55.kc, B55.kn)) rfl ?_
            obtain ⟨B58, h59, hr⟩ := bd_some hr
            refine x_sI rfl rfl h59 ?_
            refine x_b 3 (S2 := (188, [some (.ref x0), some (.ref x1), some (.ref x2), some (.int x3), some (.int x4), some (.int v54), some (.int x6), some (.int x7)], [.int x7, .ref x1, .int x7, .ref x1], (mk B58), B58.kc, B58.kn)) rfl ?_
            obtain ⟨v60, h61, hr⟩ := bd_some hr
            refine x_aI rfl rfl h61 ?_
            refine x_b 2 (S2 := (191, [some (.ref x0), some (.ref x1), some (.ref x2), some (.int x3), some (.int x4), some (.int v54), some (.int x6), some (.int x7)], [.int (v60 - 1), .int x7, .ref x1], (mk B58), B58.kc, B58.kn)) rfl ?_
            obtain ⟨B62, h63, hr⟩ := bd_some hr
            refine x_sI rfl rfl h63 ?_
            refine x_fg (Lq.s (Lq.s (Lq.s (Lq.s (Lq.s (Lq.s (Lq.s (Lq.s Lq.nil)))))))) ?_
            exact j_311_100_j192 hrf hd hr ka kx
          · refine x_cf rfl rfl (decide_eq_false h43) ?_
            refine x_b 1 (S2 := (192, [some (.ref x0), some (.ref x1), some (.ref x2), some (.int x3), some (.int x4), some (.int x5), some (.int x6), some (.int x7)], [], (mk B), B.kc, B.kn)) rfl ?_
            refine x_fg (Lq.s (Lq.s (Lq.s (Lq.s (Lq.s (Lq.s (Lq.s (Lq.s Lq.nil)))))))) ?_
            exact j_311_100_j192 hrf hd hr ka kx
def J_311_83_j198 (rf : Wd → Nat → Nat → Nat → Int32 → Option (Int32 × Wd)) (B : Wd) (x0 : Nat) (x1 : Nat) (x2 : Nat) (x3 : Int32) (x4 : Int32) (x5 : Int32) (x6 : Int32) : Option ((Int32 × Int32 × Wd) ⊕ (Int32 × Wd)) :=
  some (.inl (x5, (x6 + 1), B))
set_option maxRecDepth 200000 in
theorem j_311_83_j198 {d Dr : Nat} {scr : ASc} {rf : Wd → Nat → Nat → Nat → Int32 → Option (Int32 × Wd)} (hrf : ∀ W a b e x o, rf W a b e x = some o → RnW scr Dr 311 [.ref a, .ref b, .ref e, .int x] W (.inl (some (.int o.1))) o.2) (hd : Dr ≤ d) {res : ARe} {B : Wd} {x0 : Nat} {x1 : Nat} {x2 : Nat} {x3 : Int32} {x4 : Int32} {x5 : Int32} {x6 : Int32} {o : (Int32 × Int32 × Wd) ⊕ (Int32 × Wd)} (hr : J_311_83_j198 rf B x0 x1 x2 x3 x4 x5 x6 = some o) (ka : ∀ s, o = .inl s → Ex d am_M311 scr (P_311_83 rf x0 x1 x2 x3 x4 s) res) (kx : ∀ s, o = .inr s → Ex d am_M311 scr (PX_311_83 rf x0 x1 x2 x3 x4 s) res) : Ex d am_M311 scr (198, [some (.ref x0), some (.ref x1), some (.ref x2), some (.int x3), some (.int x4), some (.int x5), some (.int x6), none], [], (mk B), B.kc, B.kn) res := by
  delta J_311_83_j198 at hr
  refine x_b 2 (S2 := (83, [some (.ref x0), some (.ref x1), some (.ref x2), some (.int x3), some (.int x4), some (.int x5), some (.int (x6 + 1)), none], [], (mk B), B.kc, B.kn)) rfl ?_
  refine x_fg (Lq.s (Lq.s (Lq.s (Lq.s (Lq.s (Lq.s (Lq.s (Lq.s Lq.nil)))))))) ?_
  exact ka (x5, (x6 + 1), B) (Option.some.inj hr).symm
def G_311_83 (rf : Wd → Nat → Nat → Nat → Int32 → Option (Int32 × Wd)) (x0 : Nat) (x1 : Nat) (x2 : Nat) (x3 : Int32) (x4 : Int32) (s : Int32 × Int32 × Wd) : Option ((Int32 × Int32 × Wd) ⊕ (Int32 × Wd)) := 
  match s with
  | (x5, x6, B) =>
    (B.gI x0 7 0).bind fun v21 =>
    if v21 ≤ x6 then
      some (.inr (x5, B))
    else
      if ¬ x5 = 0 then
        some (.inr (x5, B))
      else
        (lw (G_311_100 rf x0 x1 x2 x3 x4 x6) 200000 (x5, 0, B)).bind fun (v65, B66) =>
        J_311_83_j198 rf B66 x0 x1 x2 x3 x4 v65 x6
set_option maxRecDepth 200000 in
theorem g_311_83 {d Dr : Nat} {scr : ASc} {rf : Wd → Nat → Nat → Nat → Int32 → Option (Int32 × Wd)} (hrf : ∀ W a b e x o, rf W a b e x = some o → RnW scr Dr 311 [.ref a, .ref b, .ref e, .int x] W (.inl (some (.int o.1))) o.2) (hd : Dr ≤ d) {res : ARe} {x0 : Nat} {x1 : Nat} {x2 : Nat} {x3 : Int32} {x4 : Int32} {s : Int32 × Int32 × Wd} {o : (Int32 × Int32 × Wd) ⊕ (Int32 × Wd)} (hr : G_311_83 rf x0 x1 x2 x3 x4 s = some o) (ka : ∀ s, o = .inl s → Ex d am_M311 scr (P_311_83 rf x0 x1 x2 x3 x4 s) res) (kx : ∀ s, o = .inr s → Ex d am_M311 scr (PX_311_83 rf x0 x1 x2 x3 x4 s) res) : Ex d am_M311 scr (P_311_83 rf x0 x1 x2 x3 x4 s) res := by
  obtain ⟨x5, x6, B⟩ := s
  delta G_311_83 at hr
  show Ex d am_M311 scr (83, [some (.ref x0), some (.ref x1), some (.ref x2), some (.int x3), some (.int x4), some (.int x5), some (.int x6), none], [], (mk B), B.kc, B.kn) res
  refine x_b 2 (S2 := (86, [some (.ref x0), some (.ref x1), some (.ref x2), some (.int x3), some (.int x4), some (.int x5), some (.int x6), none], [.ref x0, .int x6], (mk B), B.kc, B.kn)) rfl ?_
  obtain ⟨v21, h22, hr⟩ := bd_some hr
  refine x_gI rfl rfl h22 ?_
  rcases ite_some hr with ⟨h23, hr⟩ | ⟨h23, hr⟩
  · refine x_ct rfl rfl (decide_eq_true h23) ?_
    refine x_fg (Lq.s (Lq.n (Lq.n (Lq.n (Lq.s (Lq.s (Lq.n (Lq.s Lq.nil)))))))) ?_
    exact kx (x5, B) (Option.some.inj hr).symm
  · refine x_cf rfl rfl (decide_eq_false h23) ?_
    refine x_b 1 (S2 := (94, [some (.ref x0), some (.ref x1), some (.ref x2), some (.int x3), some (.int x4), some (.int x5), some (.int x6), none], [.int x5], (mk B), B.kc, B.kn)) rfl ?_
    rcases ite_some hr with ⟨h24, hr⟩ | ⟨h24, hr⟩
    · refine x_zt rfl rfl (decide_eq_true h24) ?_
      refine x_fg (Lq.s (Lq.n (Lq.n (Lq.n (Lq.s (Lq.s (Lq.n (Lq.s Lq.nil)))))))) ?_
      exact kx (x5, B) (Option.some.inj hr).symm
    · refine x_zf rfl rfl (decide_eq_false h24) ?_
      refine x_b 2 (S2 := (100, [some (.ref x0), some (.ref x1), some (.ref x2), some (.int x3), some (.int x4), some (.int x5), some (.int x6), some (.int 0)], [], (mk B), B.kc, B.kn)) rfl ?_
      refine x_fg (Lq.s (Lq.s (Lq.s (Lq.s (Lq.s (Lq.s (Lq.s (Lq.s Lq.nil)))))))) ?_
      obtain ⟨o67, h64, hr⟩ := bd_some hr
      refine x_lw (P := P_311_100 rf x0 x1 x2 x3 x4 x6) (Q := fun x => Ex d am_M311 scr (PX_311_100 rf x0 x1 x2 x3 x4 x6 x) res) (fun s o h1 ka kx => g_311_100 hrf hd h1 ka kx) _ (x5, 0, B) _ h64 ?_
      obtain ⟨v65, B66⟩ := o67
      show Ex d am_M311 scr (198, [some (.ref x0), some (.ref x1), some (.ref x2), some (.int x3), some (.int x4), some (.int v65), some (.int x6), none], [], (mk B66), B66.kc, B66.kn) res
      refine x_fg (Lq.s (Lq.s (Lq.s (Lq.s (Lq.s (Lq.s (Lq.s (Lq.s Lq.nil)))))))) ?_
      exact j_311_83_j198 hrf hd hr ka kx
def J_311_0_j220 (rf : Wd → Nat → Nat → Nat → Int32 → Option (Int32 × Wd)) (B : Wd) (x5 : Int32) (t0 : Int32) (t1 : Int32) (t2 : Nat) : Option (Int32 × Wd) :=
  (B.sB t2 t1 t0.toInt8.toInt32).bind fun B75 =>
  (if x5 = 0 ∨ x5 = 1 then some () else none).bind fun _ =>
  some (x5, B75)
set_option maxRecDepth 200000 in
theorem j_311_0_j220 {d Dr : Nat} {scr : ASc} {rf : Wd → Nat → Nat → Nat → Int32 → Option (Int32 × Wd)} (hrf : ∀ W a b e x o, rf W a b e x = some o → RnW scr Dr 311 [.ref a, .ref b, .ref e, .int x] W (.inl (some (.int o.1))) o.2) (hd : Dr ≤ d) {res : ARe} {B : Wd} {x5 : Int32} {t0 : Int32} {t1 : Int32} {t2 : Nat} {o : Int32 × Wd} (hr : J_311_0_j220 rf B x5 t0 t1 t2 = some o) (kr : res = (.inl (some (.int o.1)), mk o.2, Wd.kc o.2, Wd.kn o.2)) : Ex d am_M311 scr (220, [none, none, none, none, none, some (.int x5), none, none], [.int t0, .int t1, .ref t2], (mk B), B.kc, B.kn) res := by
  delta J_311_0_j220 at hr
  refine x_b 1 (S2 := (221, [none, none, none, none, none, some (.int x5), none, none], [.int t0.toInt8.toInt32, .int t1, .ref t2], (mk B), B.kc, B.kn)) rfl ?_
  obtain ⟨B75, h76, hr⟩ := bd_some hr
  refine x_sB rfl rfl h76 ?_
  refine x_b 1 (S2 := (224, [none, none, none, none, none, some (.int x5), none, none], [.int x5], (mk B75), B75.kc, B75.kn)) rfl ?_
  obtain ⟨uh78, h78, hr⟩ := bd_some hr
  obtain ⟨h77, -⟩ := itn_some h78
  cases hr
  rw [kr]
  exact x_ret rfl rfl (am_ret_z h77)
def J_311_0_j204 (rf : Wd → Nat → Nat → Nat → Int32 → Option (Int32 × Wd)) (B : Wd) (x0 : Nat) (x4 : Int32) (x5 : Int32) : Option (Int32 × Wd) :=
  (B.gR x0 7 5).bind fun v72 =>
  if x5 = 0 then
    J_311_0_j220 rf B x5 2 x4 v72
  else
    J_311_0_j220 rf B x5 1 x4 v72
set_option maxRecDepth 200000 in
theorem j_311_0_j204 {d Dr : Nat} {scr : ASc} {rf : Wd → Nat → Nat → Nat → Int32 → Option (Int32 × Wd)} (hrf : ∀ W a b e x o, rf W a b e x = some o → RnW scr Dr 311 [.ref a, .ref b, .ref e, .int x] W (.inl (some (.int o.1))) o.2) (hd : Dr ≤ d) {res : ARe} {B : Wd} {x0 : Nat} {x4 : Int32} {x5 : Int32} {o : Int32 × Wd} (hr : J_311_0_j204 rf B x0 x4 x5 = some o) (kr : res = (.inl (some (.int o.1)), mk o.2, Wd.kc o.2, Wd.kn o.2)) : Ex d am_M311 scr (204, [some (.ref x0), none, none, none, some (.int x4), some (.int x5), none, none], [], (mk B), B.kc, B.kn) res := by
  delta J_311_0_j204 at hr
  refine x_b 1 (S2 := (205, [some (.ref x0), none, none, none, some (.int x4), some (.int x5), none, none], [.ref x0], (mk B), B.kc, B.kn)) rfl ?_
  obtain ⟨v72, h73, hr⟩ := bd_some hr
  refine x_gR rfl rfl h73 ?_
  refine x_b 2 (S2 := (212, [some (.ref x0), none, none, none, some (.int x4), some (.int x5), none, none], [.int x5, .int x4, .ref v72], (mk B), B.kc, B.kn)) rfl ?_
  rcases ite_some hr with ⟨h74, hr⟩ | ⟨h74, hr⟩
  · refine x_zt rfl rfl (decide_eq_true h74) ?_
    refine x_b 1 (S2 := (220, [some (.ref x0), none, none, none, some (.int x4), some (.int x5), none, none], [.int 2, .int x4, .ref v72], (mk B), B.kc, B.kn)) rfl ?_
    refine x_fg (Lq.n (Lq.s (Lq.s (Lq.s (Lq.n (Lq.s (Lq.s (Lq.s Lq.nil)))))))) ?_
    exact j_311_0_j220 hrf hd hr kr
  · refine x_zf rfl rfl (decide_eq_false h74) ?_
    refine x_b 2 (S2 := (220, [some (.ref x0), none, none, none, some (.int x4), some (.int x5), none, none], [.int 1, .int x4, .ref v72], (mk B), B.kc, B.kn)) rfl ?_
    refine x_fg (Lq.n (Lq.s (Lq.s (Lq.s (Lq.n (Lq.s (Lq.s (Lq.s Lq.nil)))))))) ?_
    exact j_311_0_j220 hrf hd hr kr
def J_311_0_j76 (rf : Wd → Nat → Nat → Nat → Int32 → Option (Int32 × Wd)) (B : Wd) (t0 : Int32) : Option (Int32 × Wd) :=
  (if t0 = 0 ∨ t0 = 1 then some () else none).bind fun _ =>
  some (t0, B)
set_option maxRecDepth 200000 in
theorem j_311_0_j76 {d Dr : Nat} {scr : ASc} {rf : Wd → Nat → Nat → Nat → Int32 → Option (Int32 × Wd)} (hrf : ∀ W a b e x o, rf W a b e x = some o → RnW scr Dr 311 [.ref a, .ref b, .ref e, .int x] W (.inl (some (.int o.1))) o.2) (hd : Dr ≤ d) {res : ARe} {B : Wd} {t0 : Int32} {o : Int32 × Wd} (hr : J_311_0_j76 rf B t0 = some o) (kr : res = (.inl (some (.int o.1)), mk o.2, Wd.kc o.2, Wd.kn o.2)) : Ex d am_M311 scr (76, [none, none, none, none, none, none, none, none], [.int t0], (mk B), B.kc, B.kn) res := by
  delta J_311_0_j76 at hr
  obtain ⟨uh85, h85, hr⟩ := bd_some hr
  obtain ⟨h84, -⟩ := itn_some h85
  cases hr
  rw [kr]
  exact x_ret rfl rfl (am_ret_z h84)
/-- PebbleProofsLaw$Yard.reaches([I[II)Z -/
def B_311 (rf : Wd → Nat → Nat → Nat → Int32 → Option (Int32 × Wd)) (B : Wd) (x0 : Nat) (x1 : Nat) (x2 : Nat) (x3 : Int32) : Option (Int32 × Wd) :=
  (lw (G_311_6 rf B x0 x1 x2 x3) 200000 (0, 0)).bind fun r =>
    match r with
    | .inr r86 => some r86
    | .inl v14 =>
      (B.gR x0 7 5).bind fun v16 =>
      (B.aB v16 v14).bind fun v18 =>
      if v18 = 0 then
        (lw (G_311_83 rf x0 x1 x2 x3 v14) 200000 (0, 0, B)).bind fun (v69, B70) =>
        J_311_0_j204 rf B70 x0 v14 v69
      else
        (B.gR x0 7 5).bind fun v79 =>
        (B.aB v79 v14).bind fun v81 =>
        if ¬ v81 = 1 then
          J_311_0_j76 rf B 0
        else
          J_311_0_j76 rf B 1
set_option maxRecDepth 200000 in
theorem f_311 {d Dr : Nat} {scr : ASc} {rf : Wd → Nat → Nat → Nat → Int32 → Option (Int32 × Wd)} (hrf : ∀ W a b e x o, rf W a b e x = some o → RnW scr Dr 311 [.ref a, .ref b, .ref e, .int x] W (.inl (some (.int o.1))) o.2) (hd : Dr ≤ d) {res : ARe} {B : Wd} {x0 : Nat} {x1 : Nat} {x2 : Nat} {x3 : Int32} {o : Int32 × Wd} (hr : B_311 rf B x0 x1 x2 x3 = some o) (kr : res = (.inl (some (.int o.1)), mk o.2, Wd.kc o.2, Wd.kn o.2)) : Ex d am_M311 scr (0, [some (.ref x0), some (.ref x1), some (.ref x2), some (.int x3), none, none, none, none], [], (mk B), B.kc, B.kn) res := by
  delta B_311 at hr
  refine x_b 4 (S2 := (6, [some (.ref x0), some (.ref x1), some (.ref x2), some (.int x3), some (.int 0), some (.int 0), none, none], [], (mk B), B.kc, B.kn)) rfl ?_
  refine x_fg (Lq.s (Lq.s (Lq.s (Lq.s (Lq.s (Lq.s (Lq.s (Lq.s Lq.nil)))))))) ?_
  obtain ⟨o15, h13, hr⟩ := bd_some hr
  refine x_lw (P := P_311_6 rf B x0 x1 x2 x3) (Q := fun x => match x with | .inl e => Ex d am_M311 scr (PX_311_6 rf B x0 x1 x2 x3 e) res | .inr r => res = (.inl (some (.int r.1)), mk r.2, Wd.kc r.2, Wd.kn r.2)) (fun s o h1 ka kx => g_311_6 hrf hd h1 ka (fun e he => kx (.inl e) he) (fun r he => kx (.inr r) he)) _ (0, 0) _ h13 ?_
  rcases o15 with v14 | r86
  · show Ex d am_M311 scr (50, [some (.ref x0), some (.ref x1), some (.ref x2), some (.int x3), some (.int v14), none, none, none], [], (mk B), B.kc, B.kn) res
    refine x_b 1 (S2 := (51, [some (.ref x0), some (.ref x1), some (.ref x2), some (.int x3), some (.int v14), none, none, none], [.ref x0], (mk B), B.kc, B.kn)) rfl ?_
    obtain ⟨v16, h17, hr⟩ := bd_some hr
    refine x_gR rfl rfl h17 ?_
    refine x_b 1 (S2 := (56, [some (.ref x0), some (.ref x1), some (.ref x2), some (.int x3), some (.int v14), none, none, none], [.int v14, .ref v16], (mk B), B.kc, B.kn)) rfl ?_
    obtain ⟨v18, h19, hr⟩ := bd_some hr
    refine x_aB rfl rfl h19 ?_
    rcases ite_some hr with ⟨h20, hr⟩ | ⟨h20, hr⟩
    · refine x_zt rfl rfl (decide_eq_true h20) ?_
      refine x_b 4 (S2 := (83, [some (.ref x0), some (.ref x1), some (.ref x2), some (.int x3), some (.int v14), some (.int 0), some (.int 0), none], [], (mk B), B.kc, B.kn)) rfl ?_
      refine x_fg (Lq.s (Lq.s (Lq.s (Lq.s (Lq.s (Lq.s (Lq.s (Lq.s Lq.nil)))))))) ?_
      obtain ⟨o71, h68, hr⟩ := bd_some hr
      refine x_lw (P := P_311_83 rf x0 x1 x2 x3 v14) (Q := fun x => Ex d am_M311 scr (PX_311_83 rf x0 x1 x2 x3 v14 x) res) (fun s o h1 ka kx => g_311_83 hrf hd h1 ka kx) _ (0, 0, B) _ h68 ?_
      obtain ⟨v69, B70⟩ := o71
      show Ex d am_M311 scr (204, [some (.ref x0), none, none, none, some (.int v14), some (.int v69), none, none], [], (mk B70), B70.kc, B70.kn) res
      refine x_fg (Lq.s (Lq.s (Lq.s (Lq.s (Lq.s (Lq.s (Lq.s (Lq.s Lq.nil)))))))) ?_
      exact j_311_0_j204 hrf hd hr kr
    · refine x_zf rfl rfl (decide_eq_false h20) ?_
      refine x_b 1 (S2 := (61, [some (.ref x0), some (.ref x1), some (.ref x2), some (.int x3), some (.int v14), none, none, none], [.ref x0], (mk B), B.kc, B.kn)) rfl ?_
      obtain ⟨v79, h80, hr⟩ := bd_some hr
      refine x_gR rfl rfl h80 ?_
      refine x_b 1 (S2 := (66, [some (.ref x0), some (.ref x1), some (.ref x2), some (.int x3), some (.int v14), none, none, none], [.int v14, .ref v79], (mk B), B.kc, B.kn)) rfl ?_
      obtain ⟨v81, h82, hr⟩ := bd_some hr
      refine x_aB rfl rfl h82 ?_
      refine x_b 1 (S2 := (68, [some (.ref x0), some (.ref x1), some (.ref x2), some (.int x3), some (.int v14), none, none, none], [.int 1, .int v81], (mk B), B.kc, B.kn)) rfl ?_
      rcases ite_some hr with ⟨h83, hr⟩ | ⟨h83, hr⟩
      · refine x_ct rfl rfl (decide_eq_true h83) ?_
        refine x_b 1 (S2 := (76, [some (.ref x0), some (.ref x1), some (.ref x2), some (.int x3), some (.int v14), none, none, none], [.int 0], (mk B), B.kc, B.kn)) rfl ?_
        refine x_fg (Lq.n (Lq.n (Lq.n (Lq.n (Lq.n (Lq.s (Lq.s (Lq.s Lq.nil)))))))) ?_
        exact j_311_0_j76 hrf hd hr kr
      · refine x_cf rfl rfl (decide_eq_false h83) ?_
        refine x_b 2 (S2 := (76, [some (.ref x0), some (.ref x1), some (.ref x2), some (.int x3), some (.int v14), none, none, none], [.int 1], (mk B), B.kc, B.kn)) rfl ?_
        refine x_fg (Lq.n (Lq.n (Lq.n (Lq.n (Lq.n (Lq.s (Lq.s (Lq.s Lq.nil)))))))) ?_
        exact j_311_0_j76 hrf hd hr kr
  · cases hr; exact kr
def F_311 : Nat → Wd → Nat → Nat → Nat → Int32 → Option (Int32 × Wd)
  | 0 => fun _ _ _ _ _ => none
  | n + 1 => B_311 (F_311 n)
set_option maxRecDepth 200000 in
theorem m_311_ {scr : ASc} : ∀ (n : Nat) (B : Wd) (x0 : Nat) (x1 : Nat) (x2 : Nat) (x3 : Int32) (o : Int32 × Wd), F_311 n B x0 x1 x2 x3 = some o → RnW scr (n + 2) 311 [.ref x0, .ref x1, .ref x2, .int x3] B (.inl (some (.int o.1))) o.2
  | 0, _, _, _, _, _, _, hr => by cases hr
  | n + 1, B, x0, x1, x2, x3, o, hr => x_methW (d := n + 1) (M := am_M311) rfl (show 4 ≤ 8 by decide) (f_311 (d := n + 2) (Dr := n + 2) (fun W a b e x o h => m_311_ n W a b e x o h) (Nat.le_refl _) hr rfl)
set_option maxRecDepth 200000 in
theorem m_311 {scr : ASc} {B : Wd} {x0 : Nat} {x1 : Nat} {x2 : Nat} {x3 : Int32} {o : Int32 × Wd} (hr : F_311 64 B x0 x1 x2 x3 = some o) : RnW scr 66 311 [.ref x0, .ref x1, .ref x2, .int x3] B (.inl (some (.int o.1))) o.2 := m_311_ 64 B x0 x1 x2 x3 o hr
abbrev P_312_33 (B : Wd) (x0 : Nat) (x1 : Int32) (x3 : Nat) (x4 : Int32) (s : Int32 × Int32) : ASt := (33, [some (.ref x0), some (.int x1), some (.int s.1), some (.ref x3), some (.int x4), some (.int s.2), none], [], (mk B), Wd.kc B, Wd.kn B)
abbrev PX_312_33 (B : Wd) (x0 : Nat) (x1 : Int32) (x3 : Nat) (x4 : Int32) (s : Int32) : ASt := (57, [some (.ref x0), some (.int x1), some (.int s), none, none, none, none], [], (mk B), Wd.kc B, Wd.kn B)
def G_312_33 (B : Wd) (x0 : Nat) (x1 : Int32) (x3 : Nat) (x4 : Int32) (s : Int32 × Int32) : Option ((Int32 × Int32) ⊕ (Int32)) := 
  match s with
  | (x2, x5) =>
    if x4 ≤ x5 then
      some (.inr x2)
    else
      (B.aI x3 x5).bind fun v17 =>
      some (.inl ((x2 + v17), (x5 + 1)))
set_option maxRecDepth 200000 in
theorem g_312_33 {d : Nat} (hd : 2 ≤ d) {scr : ASc} {res : ARe} {B : Wd} {x0 : Nat} {x1 : Int32} {x3 : Nat} {x4 : Int32} {s : Int32 × Int32} {o : (Int32 × Int32) ⊕ (Int32)} (hr : G_312_33 B x0 x1 x3 x4 s = some o) (ka : ∀ s, o = .inl s → Ex d am_M312 scr (P_312_33 B x0 x1 x3 x4 s) res) (kx : ∀ s, o = .inr s → Ex d am_M312 scr (PX_312_33 B x0 x1 x3 x4 s) res) : Ex d am_M312 scr (P_312_33 B x0 x1 x3 x4 s) res := by
  obtain ⟨x2, x5⟩ := s
  delta G_312_33 at hr
  show Ex d am_M312 scr (33, [some (.ref x0), some (.int x1), some (.int x2), some (.ref x3), some (.int x4), some (.int x5), none], [], (mk B), B.kc, B.kn) res
  refine x_b 2 (S2 := (37, [some (.ref x0), some (.int x1), some (.int x2), some (.ref x3), some (.int x4), some (.int x5), none], [.int x4, .int x5], (mk B), B.kc, B.kn)) rfl ?_
  rcases ite_some hr with ⟨h16, hr⟩ | ⟨h16, hr⟩
  · refine x_ct rfl rfl (decide_eq_true h16) ?_
    refine x_fg (Lq.s (Lq.s (Lq.s (Lq.n (Lq.n (Lq.n (Lq.s Lq.nil))))))) ?_
    exact kx x2 (Option.some.inj hr).symm
  · refine x_cf rfl rfl (decide_eq_false h16) ?_
    refine x_b 2 (S2 := (43, [some (.ref x0), some (.int x1), some (.int x2), some (.ref x3), some (.int x4), some (.int x5), none], [.int x5, .ref x3], (mk B), B.kc, B.kn)) rfl ?_
    obtain ⟨v17, h18, hr⟩ := bd_some hr
    refine x_aI rfl rfl h18 ?_
    refine x_b 7 (S2 := (33, [some (.ref x0), some (.int x1), some (.int (x2 + v17)), some (.ref x3), some (.int x4), some (.int (x5 + 1)), some (.int v17)], [], (mk B), B.kc, B.kn)) rfl ?_
    refine x_fg (Lq.s (Lq.s (Lq.s (Lq.s (Lq.s (Lq.s (Lq.n Lq.nil))))))) ?_
    exact ka ((x2 + v17), (x5 + 1)) (Option.some.inj hr).symm
/-- PebbleProofsLaw$Yard.aim(I)V -/
def F_312 (B : Wd) (x0 : Nat) (x1 : Int32) : Option (Wd) :=
  (B.gI x0 7 6).bind fun v1 =>
  if ¬ v1 = x1 then
    (B.rc x0 7).bind fun _ =>
    (F_306 B x0).bind fun (a6, B7) =>
    (B7.aR a6 x1).bind fun v8 =>
    (B7.pv x0 7 7 (.ref v8)).bind fun B10 =>
    (B10.gR x0 7 7).bind fun v12 =>
    (B10.ln v12).bind fun v14 =>
    (lw (G_312_33 B10 x0 x1 v12 v14) 200000 (0, 0)).bind fun v20 =>
    (B10.nA 2 (1 <<< (v20 &&& 31))).bind fun (a22, B23) =>
    (B23.pv x0 7 5 (.ref a22)).bind fun B25 =>
    (B25.pv x0 7 6 (.int x1)).bind fun B27 =>
    some B27
  else
    some B
set_option maxRecDepth 200000 in
theorem f_312 {d : Nat} (hd : 2 ≤ d) {scr : ASc} {res : ARe} {B : Wd} {x0 : Nat} {x1 : Int32} {o : Wd} (hr : F_312 B x0 x1 = some o) (kr : res = (.inl none, mk o, Wd.kc o, Wd.kn o)) : Ex d am_M312 scr (0, [some (.ref x0), some (.int x1), none, none, none, none, none], [], (mk B), B.kc, B.kn) res := by
  delta F_312 at hr
  refine x_b 1 (S2 := (1, [some (.ref x0), some (.int x1), none, none, none, none, none], [.ref x0], (mk B), B.kc, B.kn)) rfl ?_
  obtain ⟨v1, h2, hr⟩ := bd_some hr
  refine x_gI rfl rfl h2 ?_
  refine x_b 1 (S2 := (5, [some (.ref x0), some (.int x1), none, none, none, none, none], [.int x1, .int v1], (mk B), B.kc, B.kn)) rfl ?_
  rcases ite_some hr with ⟨h3, hr⟩ | ⟨h3, hr⟩
  · refine x_ct rfl rfl (decide_eq_true h3) ?_
    refine x_b 2 (S2 := (11, [some (.ref x0), some (.int x1), none, none, none, none, none], [.ref x0, .ref x0], (mk B), B.kc, B.kn)) rfl ?_
    obtain ⟨uh4, h4, hr⟩ := bd_some hr
    obtain ⟨⟨a6, B7⟩, h5, hr⟩ := bd_some hr
    refine x_cW (m_306 h5) rfl rfl rfl rfl (am_recv_c h4 (.inl rfl)) (by omega) ?_
    refine x_b 1 (S2 := (15, [some (.ref x0), some (.int x1), none, none, none, none, none], [.int x1, .ref a6, .ref x0], (mk B7), B7.kc, B7.kn)) rfl ?_
    obtain ⟨v8, h9, hr⟩ := bd_some hr
    refine x_aR rfl rfl h9 ?_
    obtain ⟨B10, h11, hr⟩ := bd_some hr
    refine x_pv rfl rfl h11 ?_
    refine x_b 3 (S2 := (22, [some (.ref x0), some (.int x1), some (.int 0), none, none, none, none], [.ref x0], (mk B10), B10.kc, B10.kn)) rfl ?_
    obtain ⟨v12, h13, hr⟩ := bd_some hr
    refine x_gR rfl rfl h13 ?_
    refine x_b 2 (S2 := (27, [some (.ref x0), some (.int x1), some (.int 0), some (.ref v12), none, none, none], [.ref v12], (mk B10), B10.kc, B10.kn)) rfl ?_
    obtain ⟨v14, h15, hr⟩ := bd_some hr
    refine x_ln rfl rfl h15 ?_
    refine x_b 3 (S2 := (33, [some (.ref x0), some (.int x1), some (.int 0), some (.ref v12), some (.int v14), some (.int 0), none], [], (mk B10), B10.kc, B10.kn)) rfl ?_
    refine x_fg (Lq.s (Lq.s (Lq.s (Lq.s (Lq.s (Lq.s (Lq.s Lq.nil))))))) ?_
    obtain ⟨v20, h19, hr⟩ := bd_some hr
    refine x_lw (P := P_312_33 B10 x0 x1 v12 v14) (Q := fun x => Ex d am_M312 scr (PX_312_33 B10 x0 x1 v12 v14 x) res) (fun s o h1 ka kx => g_312_33 hd h1 ka kx) _ (0, 0) _ h19 ?_
    show Ex d am_M312 scr (57, [some (.ref x0), some (.int x1), some (.int v20), none, none, none, none], [], (mk B10), B10.kc, B10.kn) res
    refine x_b 4 (S2 := (61, [some (.ref x0), some (.int x1), some (.int v20), none, none, none, none], [.int (1 <<< (v20 &&& 31)), .ref x0], (mk B10), B10.kc, B10.kn)) rfl ?_
    obtain ⟨⟨a22, B23⟩, h24, hr⟩ := bd_some hr
    refine x_nA rfl rfl (.inr (.inr ⟨rfl, rfl⟩)) h24 ?_
    obtain ⟨B25, h26, hr⟩ := bd_some hr
    refine x_pv rfl rfl h26 ?_
    refine x_b 2 (S2 := (68, [some (.ref x0), some (.int x1), some (.int v20), none, none, none, none], [.int x1, .ref x0], (mk B25), B25.kc, B25.kn)) rfl ?_
    obtain ⟨B27, h28, hr⟩ := bd_some hr
    refine x_pv rfl rfl h28 ?_
    cases hr
    rw [kr]
    exact x_ret rfl rfl rfl
  · refine x_cf rfl rfl (decide_eq_false h3) ?_
    cases hr
    rw [kr]
    exact x_ret rfl rfl rfl
set_option maxRecDepth 200000 in
theorem m_312 {scr : ASc} {B : Wd} {x0 : Nat} {x1 : Int32} {o : Wd} (hr : F_312 B x0 x1 = some o) : RnW scr 3 312 [.ref x0, .int x1] B (.inl none) o :=
  x_methW (M := am_M312) rfl (show 2 ≤ 7 by decide) (f_312 (Nat.le_refl _) hr rfl)
/-- PebbleProofsLaw$Yard.reaches(I)Z -/
def F_313 (B : Wd) (x0 : Nat) (x1 : Int32) : Option (Int32 × Wd) :=
  (B.rc x0 7).bind fun _ =>
  (F_312 B x0 x1).bind fun B3 =>
  (B3.gR x0 7 2).bind fun v4 =>
  (B3.nC 0 v4).bind fun (a6, B7) =>
  (B7.ra a6 0).bind fun _ =>
  (B7.gR x0 7 7).bind fun v10 =>
  (B7.rc x0 7).bind fun _ =>
  (F_311 64 B7 x0 a6 v10 x1).bind fun (v14, B15) =>
  (if v14 = 0 ∨ v14 = 1 then some () else none).bind fun _ =>
  some (v14, B15)
set_option maxRecDepth 200000 in
theorem f_313 {d : Nat} (hd : 66 ≤ d) {scr : ASc} {res : ARe} {B : Wd} {x0 : Nat} {x1 : Int32} {o : Int32 × Wd} (hr : F_313 B x0 x1 = some o) (kr : res = (.inl (some (.int o.1)), mk o.2, Wd.kc o.2, Wd.kn o.2)) : Ex d am_M313 scr (0, [some (.ref x0), some (.int x1)], [], (mk B), B.kc, B.kn) res := by
  delta F_313 at hr
  refine x_b 2 (S2 := (2, [some (.ref x0), some (.int x1)], [.int x1, .ref x0], (mk B), B.kc, B.kn)) rfl ?_
  obtain ⟨uh1, h1, hr⟩ := bd_some hr
  obtain ⟨B3, h2, hr⟩ := bd_some hr
  refine x_cW (m_312 h2) rfl rfl rfl rfl (am_recv_c h1 (.inl rfl)) (by omega) ?_
  refine x_b 2 (S2 := (7, [some (.ref x0), some (.int x1)], [.ref x0, .ref x0], (mk B3), B3.kc, B3.kn)) rfl ?_
  obtain ⟨v4, h5, hr⟩ := bd_some hr
  refine x_gR rfl rfl h5 ?_
  obtain ⟨⟨a6, B7⟩, h8, hr⟩ := bd_some hr
  refine x_nC rfl rfl (Nat.le_of_ble_eq_true rfl) (.inl ⟨rfl, rfl⟩) h8 ?_
  obtain ⟨uh9, h9, hr⟩ := bd_some hr
  refine x_ckA (t := 0) rfl rfl h9 ?_
  refine x_b 1 (S2 := (17, [some (.ref x0), some (.int x1)], [.ref x0, .ref a6, .ref x0], (mk B7), B7.kc, B7.kn)) rfl ?_
  obtain ⟨v10, h11, hr⟩ := bd_some hr
  refine x_gR rfl rfl h11 ?_
  refine x_b 1 (S2 := (21, [some (.ref x0), some (.int x1)], [.int x1, .ref v10, .ref a6, .ref x0], (mk B7), B7.kc, B7.kn)) rfl ?_
  obtain ⟨uh12, h12, hr⟩ := bd_some hr
  obtain ⟨⟨v14, B15⟩, h13, hr⟩ := bd_some hr
  refine x_cW (m_311 h13) rfl rfl rfl rfl (am_recv_c h12 (.inl rfl)) (by omega) ?_
  obtain ⟨uh17, h17, hr⟩ := bd_some hr
  obtain ⟨h16, -⟩ := itn_some h17
  cases hr
  rw [kr]
  exact x_ret rfl rfl (am_ret_z h16)
set_option maxRecDepth 200000 in
theorem m_313 {scr : ASc} {B : Wd} {x0 : Nat} {x1 : Int32} {o : Int32 × Wd} (hr : F_313 B x0 x1 = some o) : RnW scr 67 313 [.ref x0, .int x1] B (.inl (some (.int o.1))) o.2 :=
  x_methW (M := am_M313) rfl (show 2 ≤ 2 by decide) (f_313 (Nat.le_refl _) hr rfl)
abbrev P_314_2 (x0 : Nat) (x1 : Int32) (s : Int32 × Wd) : ASt := (2, [some (.ref x0), some (.int x1), some (.int s.1), none, none], [], (mk s.2), Wd.kc s.2, Wd.kn s.2)
abbrev PX_314_2 (x0 : Nat) (x1 : Int32) (s : Wd) : ASt := (127, [none, none, none, none, none], [], (mk s), Wd.kc s, Wd.kn s)
abbrev P_314_12 (x0 : Nat) (x1 : Int32) (x2 : Int32) (s : Int32 × Wd) : ASt := (12, [some (.ref x0), some (.int x1), some (.int x2), some (.int s.1), none], [], (mk s.2), Wd.kc s.2, Wd.kn s.2)
abbrev PX_314_12 (x0 : Nat) (x1 : Int32) (x2 : Int32) (s : Wd) : ASt := (121, [some (.ref x0), some (.int x1), some (.int x2), none, none], [], (mk s), Wd.kc s, Wd.kn s)
def J_314_12_j115 (B : Wd) (x0 : Nat) (x1 : Int32) (x2 : Int32) (x3 : Int32) : Option ((Int32 × Wd) ⊕ (Wd) ⊕ (Int32 × Wd)) :=
  some (.inl ((x3 + 1), B))
set_option maxRecDepth 200000 in
theorem j_314_12_j115 {d : Nat} (hd : 67 ≤ d) {scr : ASc} {res : ARe} {B : Wd} {x0 : Nat} {x1 : Int32} {x2 : Int32} {x3 : Int32} {o : (Int32 × Wd) ⊕ (Wd) ⊕ (Int32 × Wd)} (hr : J_314_12_j115 B x0 x1 x2 x3 = some o) (ka : ∀ s, o = .inl s → Ex d am_M314 scr (P_314_12 x0 x1 x2 s) res) (kx : ∀ s, o = .inr (.inl s) → Ex d am_M314 scr (PX_314_12 x0 x1 x2 s) res) (kr : ∀ r, o = .inr (.inr r) → res = (.inl (some (.int r.1)), mk r.2, Wd.kc r.2, Wd.kn r.2)) : Ex d am_M314 scr (115, [some (.ref x0), some (.int x1), some (.int x2), some (.int x3), none], [], (mk B), B.kc, B.kn) res := by
  delta J_314_12_j115 at hr
  refine x_b 2 (S2 := (12, [some (.ref x0), some (.int x1), some (.int x2), some (.int (x3 + 1)), none], [], (mk B), B.kc, B.kn)) rfl ?_
  refine x_fg (Lq.s (Lq.s (Lq.s (Lq.s (Lq.s Lq.nil))))) ?_
  exact ka ((x3 + 1), B) (Option.some.inj hr).symm
def G_314_12 (x0 : Nat) (x1 : Int32) (x2 : Int32) (s : Int32 × Wd) : Option ((Int32 × Wd) ⊕ (Wd) ⊕ (Int32 × Wd)) := 
  match s with
  | (x3, B) =>
    (B.gI x0 7 0).bind fun v4 =>
    if v4 ≤ x3 then
      some (.inr (.inl B))
    else
      (B.gR x0 7 1).bind fun v7 =>
      (B.aR v7 x2).bind fun v9 =>
      (B.aB v9 x3).bind fun v11 =>
      if v11 = 0 then
        J_314_12_j115 B x0 x1 x2 x3
      else
        (B.gR x0 7 2).bind fun v14 =>
        (B.aI v14 x2).bind fun v16 =>
        if v16 < 2 then
          J_314_12_j115 B x0 x1 x2 x3
        else
          (B.gR x0 7 2).bind fun v19 =>
          (B.aI v19 x3).bind fun v21 =>
          if ¬ v21 = 999 then
            (B.gR x0 7 2).bind fun v24 =>
            (B.aI v24 x2).bind fun v26 =>
            (B.sI v24 x2 (v26 - 2)).bind fun B28 =>
            (B28.gR x0 7 2).bind fun v30 =>
            (B28.aI v30 x3).bind fun v32 =>
            (B28.sI v30 x3 (v32 + 1)).bind fun B34 =>
            (B34.rc x0 7).bind fun _ =>
            (F_313 B34 x0 x1).bind fun (v38, B39) =>
            (B39.gR x0 7 2).bind fun v40 =>
            (B39.aI v40 x2).bind fun v42 =>
            (B39.sI v40 x2 (v42 + 2)).bind fun B44 =>
            (B44.gR x0 7 2).bind fun v46 =>
            (B44.aI v46 x3).bind fun v48 =>
            (B44.sI v46 x3 (v48 - 1)).bind fun B50 =>
            if v38 = 0 then
              J_314_12_j115 B50 x0 x1 x2 x3
            else
              some (.inr (.inr (((10 * x2) + x3), B50)))
          else
            J_314_12_j115 B x0 x1 x2 x3
set_option maxRecDepth 200000 in
theorem g_314_12 {d : Nat} (hd : 67 ≤ d) {scr : ASc} {res : ARe} {x0 : Nat} {x1 : Int32} {x2 : Int32} {s : Int32 × Wd} {o : (Int32 × Wd) ⊕ (Wd) ⊕ (Int32 × Wd)} (hr : G_314_12 x0 x1 x2 s = some o) (ka : ∀ s, o = .inl s → Ex d am_M314 scr (P_314_12 x0 x1 x2 s) res) (kx : ∀ s, o = .inr (.inl s) → Ex d am_M314 scr (PX_314_12 x0 x1 x2 s) res) (kr : ∀ r, o = .inr (.inr r) → res = (.inl (some (.int r.1)), mk r.2, Wd.kc r.2, Wd.kn r.2)) : Ex d am_M314 scr (P_314_12 x0 x1 x2 s) res := by
  obtain ⟨x3, B⟩ := s
  delta G_314_12 at hr
  show Ex d am_M314 scr (12, [some (.ref x0), some (.int x1), some (.int x2), some (.int x3), none], [], (mk B), B.kc, B.kn) res
  refine x_b 2 (S2 := (14, [some (.ref x0), some (.int x1), some (.int x2), some (.int x3), none], [.ref x0, .int x3], (mk B), B.kc, B.kn)) rfl ?_
  obtain ⟨v4, h5, hr⟩ := bd_some hr
  refine x_gI rfl rfl h5 ?_
  rcases ite_some hr with ⟨h6, hr⟩ | ⟨h6, hr⟩
  · refine x_ct rfl rfl (decide_eq_true h6) ?_
    refine x_fg (Lq.s (Lq.s (Lq.s (Lq.n (Lq.s Lq.nil))))) ?_
    exact kx B (Option.some.inj hr).symm
  · refine x_cf rfl rfl (decide_eq_false h6) ?_
    refine x_b 1 (S2 := (21, [some (.ref x0), some (.int x1), some (.int x2), some (.int x3), none], [.ref x0], (mk B), B.kc, B.kn)) rfl ?_
    obtain ⟨v7, h8, hr⟩ := bd_some hr
    refine x_gR rfl rfl h8 ?_
    refine x_b 1 (S2 := (25, [some (.ref x0), some (.int x1), some (.int x2), some (.int x3), none], [.int x2, .ref v7], (mk B), B.kc, B.kn)) rfl ?_
    obtain ⟨v9, h10, hr⟩ := bd_some hr
    refine x_aR rfl rfl h10 ?_
    refine x_b 1 (S2 := (27, [some (.ref x0), some (.int x1), some (.int x2), some (.int x3), none], [.int x3, .ref v9], (mk B), B.kc, B.kn)) rfl ?_
    obtain ⟨v11, h12, hr⟩ := bd_some hr
    refine x_aB rfl rfl h12 ?_
    rcases ite_some hr with ⟨h13, hr⟩ | ⟨h13, hr⟩
    · refine x_zt rfl rfl (decide_eq_true h13) ?_
      refine x_fg (Lq.s (Lq.s (Lq.s (Lq.s (Lq.s Lq.nil))))) ?_
      exact j_314_12_j115 hd hr ka kx kr
    · refine x_zf rfl rfl (decide_eq_false h13) ?_
      refine x_b 1 (S2 := (32, [some (.ref x0), some (.int x1), some (.int x2), some (.int x3), none], [.ref x0], (mk B), B.kc, B.kn)) rfl ?_
      obtain ⟨v14, h15, hr⟩ := bd_some hr
      refine x_gR rfl rfl h15 ?_
      refine x_b 1 (S2 := (36, [some (.ref x0), some (.int x1), some (.int x2), some (.int x3), none], [.int x2, .ref v14], (mk B), B.kc, B.kn)) rfl ?_
      obtain ⟨v16, h17, hr⟩ := bd_some hr
      refine x_aI rfl rfl h17 ?_
      refine x_b 1 (S2 := (38, [some (.ref x0), some (.int x1), some (.int x2), some (.int x3), none], [.int 2, .int v16], (mk B), B.kc, B.kn)) rfl ?_
      rcases ite_some hr with ⟨h18, hr⟩ | ⟨h18, hr⟩
      · refine x_ct rfl rfl (decide_eq_true h18) ?_
        refine x_fg (Lq.s (Lq.s (Lq.s (Lq.s (Lq.s Lq.nil))))) ?_
        exact j_314_12_j115 hd hr ka kx kr
      · refine x_cf rfl rfl (decide_eq_false h18) ?_
        refine x_b 1 (S2 := (42, [some (.ref x0), some (.int x1), some (.int x2), some (.int x3), none], [.ref x0], (mk B), B.kc, B.kn)) rfl ?_
        obtain ⟨v19, h20, hr⟩ := bd_some hr
        refine x_gR rfl rfl h20 ?_
        refine x_b 1 (S2 := (46, [some (.ref x0), some (.int x1), some (.int x2), some (.int x3), none], [.int x3, .ref v19], (mk B), B.kc, B.kn)) rfl ?_
        obtain ⟨v21, h22, hr⟩ := bd_some hr
        refine x_aI rfl rfl h22 ?_
        refine x_b 1 (S2 := (50, [some (.ref x0), some (.int x1), some (.int x2), some (.int x3), none], [.int 999, .int v21], (mk B), B.kc, B.kn)) rfl ?_
        rcases ite_some hr with ⟨h23, hr⟩ | ⟨h23, hr⟩
        · refine x_ct rfl rfl (decide_eq_true h23) ?_
          refine x_b 1 (S2 := (57, [some (.ref x0), some (.int x1), some (.int x2), some (.int x3), none], [.ref x0], (mk B), B.kc, B.kn)) rfl ?_
          obtain ⟨v24, h25, hr⟩ := bd_some hr
          refine x_gR rfl rfl h25 ?_
          refine x_b 2 (S2 := (62, [some (.ref x0), some (.int x1), some (.int x2), some (.int x3), none], [.int x2, .ref v24, .int x2, .ref v24], (mk B), B.kc, B.kn)) rfl ?_
          obtain ⟨v26, h27, hr⟩ := bd_some hr
          refine x_aI rfl rfl h27 ?_
          refine x_b 2 (S2 := (65, [some (.ref x0), some (.int x1), some (.int x2), some (.int x3), none], [.int (v26 - 2), .int x2, .ref v24], (mk B), B.kc, B.kn)) rfl ?_
          obtain ⟨B28, h29, hr⟩ := bd_some hr
          refine x_sI rfl rfl h29 ?_
          refine x_b 1 (S2 := (67, [some (.ref x0), some (.int x1), some (.int x2), some (.int x3), none], [.ref x0], (mk B28), B28.kc, B28.kn)) rfl ?_
          obtain ⟨v30, h31, hr⟩ := bd_some hr
          refine x_gR rfl rfl h31 ?_
          refine x_b 2 (S2 := (72, [some (.ref x0), some (.int x1), some (.int x2), some (.int x3), none], [.int x3, .ref v30, .int x3, .ref v30], (mk B28), B28.kc, B28.kn)) rfl ?_
          obtain ⟨v32, h33, hr⟩ := bd_some hr
          refine x_aI rfl rfl h33 ?_
          refine x_b 2 (S2 := (75, [some (.ref x0), some (.int x1), some (.int x2), some (.int x3), none], [.int (v32 + 1), .int x3, .ref v30], (mk B28), B28.kc, B28.kn)) rfl ?_
          obtain ⟨B34, h35, hr⟩ := bd_some hr
          refine x_sI rfl rfl h35 ?_
          refine x_b 2 (S2 := (78, [some (.ref x0), some (.int x1), some (.int x2), some (.int x3), none], [.int x1, .ref x0], (mk B34), B34.kc, B34.kn)) rfl ?_
          obtain ⟨uh36, h36, hr⟩ := bd_some hr
          obtain ⟨⟨v38, B39⟩, h37, hr⟩ := bd_some hr
          refine x_cW (m_313 h37) rfl rfl rfl rfl (am_recv_c h36 (.inl rfl)) (by omega) ?_
          refine x_b 2 (S2 := (84, [some (.ref x0), some (.int x1), some (.int x2), some (.int x3), some (.int v38)], [.ref x0], (mk B39), B39.kc, B39.kn)) rfl ?_
          obtain ⟨v40, h41, hr⟩ := bd_some hr
          refine x_gR rfl rfl h41 ?_
          refine x_b 2 (S2 := (89, [some (.ref x0), some (.int x1), some (.int x2), some (.int x3), some (.int v38)], [.int x2, .ref v40, .int x2, .ref v40], (mk B39), B39.kc, B39.kn)) rfl ?_
          obtain ⟨v42, h43, hr⟩ := bd_some hr
          refine x_aI rfl rfl h43 ?_
          refine x_b 2 (S2 := (92, [some (.ref x0), some (.int x1), some (.int x2), some (.int x3), some (.int v38)], [.int (v42 + 2), .int x2, .ref v40], (mk B39), B39.kc, B39.kn)) rfl ?_
          obtain ⟨B44, h45, hr⟩ := bd_some hr
          refine x_sI rfl rfl h45 ?_
          refine x_b 1 (S2 := (94, [some (.ref x0), some (.int x1), some (.int x2), some (.int x3), some (.int v38)], [.ref x0], (mk B44), B44.kc, B44.kn)) rfl ?_
          obtain ⟨v46, h47, hr⟩ := bd_some hr
          refine x_gR rfl rfl h47 ?_
          refine x_b 2 (S2 := (99, [some (.ref x0), some (.int x1), some (.int x2), some (.int x3), some (.int v38)], [.int x3, .ref v46, .int x3, .ref v46], (mk B44), B44.kc, B44.kn)) rfl ?_
          obtain ⟨v48, h49, hr⟩ := bd_some hr
          refine x_aI rfl rfl h49 ?_
          refine x_b 2 (S2 := (102, [some (.ref x0), some (.int x1), some (.int x2), some (.int x3), some (.int v38)], [.int (v48 - 1), .int x3, .ref v46], (mk B44), B44.kc, B44.kn)) rfl ?_
          obtain ⟨B50, h51, hr⟩ := bd_some hr
          refine x_sI rfl rfl h51 ?_
          refine x_b 1 (S2 := (105, [some (.ref x0), some (.int x1), some (.int x2), some (.int x3), some (.int v38)], [.int v38], (mk B50), B50.kc, B50.kn)) rfl ?_
          rcases ite_some hr with ⟨h52, hr⟩ | ⟨h52, hr⟩
          · refine x_zt rfl rfl (decide_eq_true h52) ?_
            refine x_fg (Lq.s (Lq.s (Lq.s (Lq.s (Lq.n Lq.nil))))) ?_
            exact j_314_12_j115 hd hr ka kx kr
          · refine x_zf rfl rfl (decide_eq_false h52) ?_
            refine x_b 5 (S2 := (114, [some (.ref x0), some (.int x1), some (.int x2), some (.int x3), some (.int v38)], [.int ((10 * x2) + x3)], (mk B50), B50.kc, B50.kn)) rfl ?_
            rw [kr _ (Option.some.inj hr).symm]
            exact x_ret rfl rfl am_ret_i
        · refine x_cf rfl rfl (decide_eq_false h23) ?_
          refine x_b 1 (S2 := (115, [some (.ref x0), some (.int x1), some (.int x2), some (.int x3), none], [], (mk B), B.kc, B.kn)) rfl ?_
          refine x_fg (Lq.s (Lq.s (Lq.s (Lq.s (Lq.s Lq.nil))))) ?_
          exact j_314_12_j115 hd hr ka kx kr
def G_314_2 (x0 : Nat) (x1 : Int32) (s : Int32 × Wd) : Option ((Int32 × Wd) ⊕ (Wd) ⊕ (Int32 × Wd)) := 
  match s with
  | (x2, B) =>
    (B.gI x0 7 0).bind fun v1 =>
    if v1 ≤ x2 then
      some (.inr (.inl B))
    else
      (lw (G_314_12 x0 x1 x2) 200000 (0, B)).bind fun r =>
        match r with
        | .inr r56 => some (.inr (.inr r56))
        | .inl B54 =>
          some (.inl ((x2 + 1), B54))
set_option maxRecDepth 200000 in
theorem g_314_2 {d : Nat} (hd : 67 ≤ d) {scr : ASc} {res : ARe} {x0 : Nat} {x1 : Int32} {s : Int32 × Wd} {o : (Int32 × Wd) ⊕ (Wd) ⊕ (Int32 × Wd)} (hr : G_314_2 x0 x1 s = some o) (ka : ∀ s, o = .inl s → Ex d am_M314 scr (P_314_2 x0 x1 s) res) (kx : ∀ s, o = .inr (.inl s) → Ex d am_M314 scr (PX_314_2 x0 x1 s) res) (kr : ∀ r, o = .inr (.inr r) → res = (.inl (some (.int r.1)), mk r.2, Wd.kc r.2, Wd.kn r.2)) : Ex d am_M314 scr (P_314_2 x0 x1 s) res := by
  obtain ⟨x2, B⟩ := s
  delta G_314_2 at hr
  show Ex d am_M314 scr (2, [some (.ref x0), some (.int x1), some (.int x2), none, none], [], (mk B), B.kc, B.kn) res
  refine x_b 2 (S2 := (4, [some (.ref x0), some (.int x1), some (.int x2), none, none], [.ref x0, .int x2], (mk B), B.kc, B.kn)) rfl ?_
  obtain ⟨v1, h2, hr⟩ := bd_some hr
  refine x_gI rfl rfl h2 ?_
  rcases ite_some hr with ⟨h3, hr⟩ | ⟨h3, hr⟩
  · refine x_ct rfl rfl (decide_eq_true h3) ?_
    refine x_fg (Lq.n (Lq.n (Lq.n (Lq.s (Lq.s Lq.nil))))) ?_
    exact kx B (Option.some.inj hr).symm
  · refine x_cf rfl rfl (decide_eq_false h3) ?_
    refine x_b 2 (S2 := (12, [some (.ref x0), some (.int x1), some (.int x2), some (.int 0), none], [], (mk B), B.kc, B.kn)) rfl ?_
    refine x_fg (Lq.s (Lq.s (Lq.s (Lq.s (Lq.s Lq.nil))))) ?_
    obtain ⟨o55, h53, hr⟩ := bd_some hr
    refine x_lw (P := P_314_12 x0 x1 x2) (Q := fun x => match x with | .inl e => Ex d am_M314 scr (PX_314_12 x0 x1 x2 e) res | .inr r => res = (.inl (some (.int r.1)), mk r.2, Wd.kc r.2, Wd.kn r.2)) (fun s o h1 ka kx => g_314_12 hd h1 ka (fun e he => kx (.inl e) he) (fun r he => kx (.inr r) he)) _ (0, B) _ h53 ?_
    rcases o55 with B54 | r56
    · show Ex d am_M314 scr (121, [some (.ref x0), some (.int x1), some (.int x2), none, none], [], (mk B54), B54.kc, B54.kn) res
      refine x_b 2 (S2 := (2, [some (.ref x0), some (.int x1), some (.int (x2 + 1)), none, none], [], (mk B54), B54.kc, B54.kn)) rfl ?_
      refine x_fg (Lq.s (Lq.s (Lq.s (Lq.s (Lq.s Lq.nil))))) ?_
      exact ka ((x2 + 1), B54) (Option.some.inj hr).symm
    · exact kr _ (Option.some.inj hr).symm
/-- PebbleProofsLaw$Yard.next(I)I -/
def F_314 (B : Wd) (x0 : Nat) (x1 : Int32) : Option (Int32 × Wd) :=
  (lw (G_314_2 x0 x1) 200000 (0, B)).bind fun r =>
    match r with
    | .inr r60 => some r60
    | .inl B58 =>
      some ((3294967292 : Int32), B58)
set_option maxRecDepth 200000 in
theorem f_314 {d : Nat} (hd : 67 ≤ d) {scr : ASc} {res : ARe} {B : Wd} {x0 : Nat} {x1 : Int32} {o : Int32 × Wd} (hr : F_314 B x0 x1 = some o) (kr : res = (.inl (some (.int o.1)), mk o.2, Wd.kc o.2, Wd.kn o.2)) : Ex d am_M314 scr (0, [some (.ref x0), some (.int x1), none, none, none], [], (mk B), B.kc, B.kn) res := by
  delta F_314 at hr
  refine x_b 2 (S2 := (2, [some (.ref x0), some (.int x1), some (.int 0), none, none], [], (mk B), B.kc, B.kn)) rfl ?_
  refine x_fg (Lq.s (Lq.s (Lq.s (Lq.s (Lq.s Lq.nil))))) ?_
  obtain ⟨o59, h57, hr⟩ := bd_some hr
  refine x_lw (P := P_314_2 x0 x1) (Q := fun x => match x with | .inl e => Ex d am_M314 scr (PX_314_2 x0 x1 e) res | .inr r => res = (.inl (some (.int r.1)), mk r.2, Wd.kc r.2, Wd.kn r.2)) (fun s o h1 ka kx => g_314_2 hd h1 ka (fun e he => kx (.inl e) he) (fun r he => kx (.inr r) he)) _ (0, B) _ h57 ?_
  rcases o59 with B58 | r60
  · show Ex d am_M314 scr (127, [none, none, none, none, none], [], (mk B58), B58.kc, B58.kn) res
    refine x_b 1 (S2 := (129, [none, none, none, none, none], [.int (3294967292 : Int32)], (mk B58), B58.kc, B58.kn)) rfl ?_
    cases hr
    rw [kr]
    exact x_ret rfl rfl am_ret_i
  · cases hr; exact kr
set_option maxRecDepth 200000 in
theorem m_314 {scr : ASc} {B : Wd} {x0 : Nat} {x1 : Int32} {o : Int32 × Wd} (hr : F_314 B x0 x1 = some o) : RnW scr 68 314 [.ref x0, .int x1] B (.inl (some (.int o.1))) o.2 :=
  x_methW (M := am_M314) rfl (show 2 ≤ 5 by decide) (f_314 (Nat.le_refl _) hr rfl)
/-- PebbleProofsLaw$Yard.move(II)V -/
def F_315 (B : Wd) (x0 : Nat) (x1 : Int32) (x2 : Int32) : Option (Wd) :=
  (B.gR x0 7 2).bind fun v1 =>
  (B.aI v1 x1).bind fun v3 =>
  (B.sI v1 x1 (v3 - 2)).bind fun B5 =>
  (B5.gR x0 7 2).bind fun v7 =>
  (B5.aI v7 x2).bind fun v9 =>
  (B5.sI v7 x2 (v9 + 1)).bind fun B11 =>
  (B11.gI x0 7 3).bind fun v13 =>
  (B11.pv x0 7 3 (.int (v13 + 1))).bind fun B15 =>
  some B15
set_option maxRecDepth 200000 in
theorem f_315 {d : Nat} (hd : 1 ≤ d) {scr : ASc} {res : ARe} {B : Wd} {x0 : Nat} {x1 : Int32} {x2 : Int32} {o : Wd} (hr : F_315 B x0 x1 x2 = some o) (kr : res = (.inl none, mk o, Wd.kc o, Wd.kn o)) : Ex d am_M315 scr (0, [some (.ref x0), some (.int x1), some (.int x2)], [], (mk B), B.kc, B.kn) res := by
  delta F_315 at hr
  refine x_b 1 (S2 := (1, [some (.ref x0), some (.int x1), some (.int x2)], [.ref x0], (mk B), B.kc, B.kn)) rfl ?_
  obtain ⟨v1, h2, hr⟩ := bd_some hr
  refine x_gR rfl rfl h2 ?_
  refine x_b 2 (S2 := (6, [some (.ref x0), some (.int x1), some (.int x2)], [.int x1, .ref v1, .int x1, .ref v1], (mk B), B.kc, B.kn)) rfl ?_
  obtain ⟨v3, h4, hr⟩ := bd_some hr
  refine x_aI rfl rfl h4 ?_
  refine x_b 2 (S2 := (9, [some (.ref x0), some (.int x1), some (.int x2)], [.int (v3 - 2), .int x1, .ref v1], (mk B), B.kc, B.kn)) rfl ?_
  obtain ⟨B5, h6, hr⟩ := bd_some hr
  refine x_sI rfl rfl h6 ?_
  refine x_b 1 (S2 := (11, [some (.ref x0), some (.int x1), some (.int x2)], [.ref x0], (mk B5), B5.kc, B5.kn)) rfl ?_
  obtain ⟨v7, h8, hr⟩ := bd_some hr
  refine x_gR rfl rfl h8 ?_
  refine x_b 2 (S2 := (16, [some (.ref x0), some (.int x1), some (.int x2)], [.int x2, .ref v7, .int x2, .ref v7], (mk B5), B5.kc, B5.kn)) rfl ?_
  obtain ⟨v9, h10, hr⟩ := bd_some hr
  refine x_aI rfl rfl h10 ?_
  refine x_b 2 (S2 := (19, [some (.ref x0), some (.int x1), some (.int x2)], [.int (v9 + 1), .int x2, .ref v7], (mk B5), B5.kc, B5.kn)) rfl ?_
  obtain ⟨B11, h12, hr⟩ := bd_some hr
  refine x_sI rfl rfl h12 ?_
  refine x_b 2 (S2 := (22, [some (.ref x0), some (.int x1), some (.int x2)], [.ref x0, .ref x0], (mk B11), B11.kc, B11.kn)) rfl ?_
  obtain ⟨v13, h14, hr⟩ := bd_some hr
  refine x_gI rfl rfl h14 ?_
  refine x_b 2 (S2 := (27, [some (.ref x0), some (.int x1), some (.int x2)], [.int (v13 + 1), .ref x0], (mk B11), B11.kc, B11.kn)) rfl ?_
  obtain ⟨B15, h16, hr⟩ := bd_some hr
  refine x_pv rfl rfl h16 ?_
  cases hr
  rw [kr]
  exact x_ret rfl rfl rfl
set_option maxRecDepth 200000 in
theorem m_315 {scr : ASc} {B : Wd} {x0 : Nat} {x1 : Int32} {x2 : Int32} {o : Wd} (hr : F_315 B x0 x1 x2 = some o) : RnW scr 2 315 [.ref x0, .int x1, .int x2] B (.inl none) o :=
  x_methW (M := am_M315) rfl (show 3 ≤ 3 by decide) (f_315 (Nat.le_refl _) hr rfl)
abbrev P_316_13 (B : Wd) (x2 : Nat) (x3 : Int32) (s : Int32 × Int32) : ASt := (13, [none, some (.int s.1), some (.ref x2), some (.int x3), some (.int s.2), none], [], (mk B), Wd.kc B, Wd.kn B)
abbrev PX_316_13 (B : Wd) (x2 : Nat) (x3 : Int32) (s : Int32) : ASt := (36, [none, some (.int s), none, none, none, none], [], (mk B), Wd.kc B, Wd.kn B)
def G_316_13 (B : Wd) (x2 : Nat) (x3 : Int32) (s : Int32 × Int32) : Option ((Int32 × Int32) ⊕ (Int32)) := 
  match s with
  | (x1, x4) =>
    if x3 ≤ x4 then
      some (.inr x1)
    else
      (B.aI x2 x4).bind fun v6 =>
      some (.inl ((x1 + v6), (x4 + 1)))
set_option maxRecDepth 200000 in
theorem g_316_13 {d : Nat} (hd : 1 ≤ d) {scr : ASc} {res : ARe} {B : Wd} {x2 : Nat} {x3 : Int32} {s : Int32 × Int32} {o : (Int32 × Int32) ⊕ (Int32)} (hr : G_316_13 B x2 x3 s = some o) (ka : ∀ s, o = .inl s → Ex d am_M316 scr (P_316_13 B x2 x3 s) res) (kx : ∀ s, o = .inr s → Ex d am_M316 scr (PX_316_13 B x2 x3 s) res) : Ex d am_M316 scr (P_316_13 B x2 x3 s) res := by
  obtain ⟨x1, x4⟩ := s
  delta G_316_13 at hr
  show Ex d am_M316 scr (13, [none, some (.int x1), some (.ref x2), some (.int x3), some (.int x4), none], [], (mk B), B.kc, B.kn) res
  refine x_b 2 (S2 := (16, [none, some (.int x1), some (.ref x2), some (.int x3), some (.int x4), none], [.int x3, .int x4], (mk B), B.kc, B.kn)) rfl ?_
  rcases ite_some hr with ⟨h5, hr⟩ | ⟨h5, hr⟩
  · refine x_ct rfl rfl (decide_eq_true h5) ?_
    refine x_fg (Lq.s (Lq.s (Lq.n (Lq.n (Lq.n (Lq.s Lq.nil)))))) ?_
    exact kx x1 (Option.some.inj hr).symm
  · refine x_cf rfl rfl (decide_eq_false h5) ?_
    refine x_b 2 (S2 := (22, [none, some (.int x1), some (.ref x2), some (.int x3), some (.int x4), none], [.int x4, .ref x2], (mk B), B.kc, B.kn)) rfl ?_
    obtain ⟨v6, h7, hr⟩ := bd_some hr
    refine x_aI rfl rfl h7 ?_
    refine x_b 7 (S2 := (13, [none, some (.int (x1 + v6)), some (.ref x2), some (.int x3), some (.int (x4 + 1)), some (.int v6)], [], (mk B), B.kc, B.kn)) rfl ?_
    refine x_fg (Lq.s (Lq.s (Lq.s (Lq.s (Lq.s (Lq.n Lq.nil)))))) ?_
    exact ka ((x1 + v6), (x4 + 1)) (Option.some.inj hr).symm
/-- PebbleProofsLaw$Yard.all()I -/
def F_316 (B : Wd) (x0 : Nat) : Option (Int32) :=
  (B.gR x0 7 2).bind fun v1 =>
  (B.ln v1).bind fun v3 =>
  (lw (G_316_13 B v1 v3) 200000 (0, 0)).bind fun v9 =>
  some v9
set_option maxRecDepth 200000 in
theorem f_316 {d : Nat} (hd : 1 ≤ d) {scr : ASc} {res : ARe} {B : Wd} {x0 : Nat} {o : Int32} (hr : F_316 B x0 = some o) (kr : res = (.inl (some (.int o)), mk B, Wd.kc B, Wd.kn B)) : Ex d am_M316 scr (0, [some (.ref x0), none, none, none, none, none], [], (mk B), B.kc, B.kn) res := by
  delta F_316 at hr
  refine x_b 3 (S2 := (3, [some (.ref x0), some (.int 0), none, none, none, none], [.ref x0], (mk B), B.kc, B.kn)) rfl ?_
  obtain ⟨v1, h2, hr⟩ := bd_some hr
  refine x_gR rfl rfl h2 ?_
  refine x_b 2 (S2 := (8, [some (.ref x0), some (.int 0), some (.ref v1), none, none, none], [.ref v1], (mk B), B.kc, B.kn)) rfl ?_
  obtain ⟨v3, h4, hr⟩ := bd_some hr
  refine x_ln rfl rfl h4 ?_
  refine x_b 3 (S2 := (13, [some (.ref x0), some (.int 0), some (.ref v1), some (.int v3), some (.int 0), none], [], (mk B), B.kc, B.kn)) rfl ?_
  refine x_fg (Lq.n (Lq.s (Lq.s (Lq.s (Lq.s (Lq.s Lq.nil)))))) ?_
  obtain ⟨v9, h8, hr⟩ := bd_some hr
  refine x_lw (P := P_316_13 B v1 v3) (Q := fun x => Ex d am_M316 scr (PX_316_13 B v1 v3 x) res) (fun s o h1 ka kx => g_316_13 hd h1 ka kx) _ (0, 0) _ h8 ?_
  show Ex d am_M316 scr (36, [none, some (.int v9), none, none, none, none], [], (mk B), B.kc, B.kn) res
  refine x_b 1 (S2 := (37, [none, some (.int v9), none, none, none, none], [.int v9], (mk B), B.kc, B.kn)) rfl ?_
  cases hr
  rw [kr]
  exact x_ret rfl rfl am_ret_i
set_option maxRecDepth 200000 in
theorem m_316 {scr : ASc} {B : Wd} {x0 : Nat} {o : Int32} (hr : F_316 B x0 = some o) : RnW scr 2 316 [.ref x0] B (.inl (some (.int o))) B :=
  x_methW (M := am_M316) rfl (show 1 ≤ 6 by decide) (f_316 (Nat.le_refl _) hr rfl)
abbrev P_317_10 (x0 : Nat) (x2 : Nat) (s : Int32 × Int32 × Wd) : ASt := (10, [some (.ref x0), some (.ref 0), some (.ref x2), some (.int s.1), some (.int s.2.1), none, none, none], [], (mk s.2.2), Wd.kc s.2.2, Wd.kn s.2.2)
abbrev PX_317_10 (x0 : Nat) (x2 : Nat) (s : Int32 × Wd) : ASt := (114, [some (.ref x0), some (.ref 0), none, some (.int s.1), none, none, none, none], [], (mk s.2), Wd.kc s.2, Wd.kn s.2)
abbrev P_317_22 (x0 : Nat) (x2 : Nat) (x4 : Int32) (s : Int32 × Int32 × Wd) : ASt := (22, [some (.ref x0), some (.ref 0), some (.ref x2), some (.int s.1), some (.int x4), some (.int s.2.1), none, none], [], (mk s.2.2), Wd.kc s.2.2, Wd.kn s.2.2)
abbrev PX_317_22 (x0 : Nat) (x2 : Nat) (x4 : Int32) (s : Int32 × Wd) : ASt := (90, [some (.ref x0), some (.ref 0), some (.ref x2), some (.int s.1), some (.int x4), none, none, none], [], (mk s.2), Wd.kc s.2, Wd.kn s.2)
def J_317_22_j70 (B : Wd) (x0 : Nat) (x2 : Nat) (x4 : Int32) : Option ((Int32 × Int32 × Wd) ⊕ (Int32 × Wd) ⊕ (Int32 × Wd)) :=
  some (.inr (.inr (0, B)))
set_option maxRecDepth 200000 in
theorem j_317_22_j70 {d : Nat} (hd : 9 ≤ d) {scr : ASc} {res : ARe} {B : Wd} {x0 : Nat} {x2 : Nat} {x4 : Int32} {o : (Int32 × Int32 × Wd) ⊕ (Int32 × Wd) ⊕ (Int32 × Wd)} (hr : J_317_22_j70 B x0 x2 x4 = some o) (ka : ∀ s, o = .inl s → Ex d am_M317 scr (P_317_22 x0 x2 x4 s) res) (kx : ∀ s, o = .inr (.inl s) → Ex d am_M317 scr (PX_317_22 x0 x2 x4 s) res) (kr : ∀ r, o = .inr (.inr r) → res = (.inl (some (.int r.1)), mk r.2, Wd.kc r.2, Wd.kn r.2)) : Ex d am_M317 scr (70, [none, none, none, none, none, none, none, none], [], (mk B), B.kc, B.kn) res := by
  delta J_317_22_j70 at hr
  refine x_b 1 (S2 := (71, [none, none, none, none, none, none, none, none], [.int 0], (mk B), B.kc, B.kn)) rfl ?_
  rw [kr _ (Option.some.inj hr).symm]
  exact x_ret rfl rfl (am_ret_z (by decide))
def G_317_22 (x0 : Nat) (x2 : Nat) (x4 : Int32) (s : Int32 × Int32 × Wd) : Option ((Int32 × Int32 × Wd) ⊕ (Int32 × Wd) ⊕ (Int32 × Wd)) := 
  match s with
  | (x3, x5, B) =>
    (B.gI x0 7 0).bind fun v8 =>
    if v8 ≤ x5 then
      some (.inr (.inl (x3, B)))
    else
      (F_99 B x4 x5).bind fun (r12, B13) =>
      xq r12 (fun X14 =>
        none) fun v15 =>
      (B13.gR x0 7 1).bind fun v16 =>
      (B13.aR v16 x4).bind fun v18 =>
      (B13.aB v18 x5).bind fun v20 =>
      if ¬ v15 = v20 then
        J_317_22_j70 B13 x0 x2 x4
      else
        (F_100 B13 x4 x5).bind fun (r24, B25) =>
        xq r24 (fun X26 =>
          none) fun v27 =>
        (B25.aR x2 x4).bind fun v28 =>
        (B25.aI v28 x5).bind fun v30 =>
        if v27 = v30 then
          (B25.aR x2 x4).bind fun v33 =>
          (B25.aI v33 x5).bind fun v35 =>
          some (.inl ((imx x3 v35), (x5 + 1), B25))
        else
          J_317_22_j70 B25 x0 x2 x4
set_option maxRecDepth 200000 in
theorem g_317_22 {d : Nat} (hd : 9 ≤ d) {scr : ASc} {res : ARe} {x0 : Nat} {x2 : Nat} {x4 : Int32} {s : Int32 × Int32 × Wd} {o : (Int32 × Int32 × Wd) ⊕ (Int32 × Wd) ⊕ (Int32 × Wd)} (hr : G_317_22 x0 x2 x4 s = some o) (ka : ∀ s, o = .inl s → Ex d am_M317 scr (P_317_22 x0 x2 x4 s) res) (kx : ∀ s, o = .inr (.inl s) → Ex d am_M317 scr (PX_317_22 x0 x2 x4 s) res) (kr : ∀ r, o = .inr (.inr r) → res = (.inl (some (.int r.1)), mk r.2, Wd.kc r.2, Wd.kn r.2)) : Ex d am_M317 scr (P_317_22 x0 x2 x4 s) res := by
  obtain ⟨x3, x5, B⟩ := s
  delta G_317_22 at hr
  show Ex d am_M317 scr (22, [some (.ref x0), some (.ref 0), some (.ref x2), some (.int x3), some (.int x4), some (.int x5), none, none], [], (mk B), B.kc, B.kn) res
  refine x_b 2 (S2 := (25, [some (.ref x0), some (.ref 0), some (.ref x2), some (.int x3), some (.int x4), some (.int x5), none, none], [.ref x0, .int x5], (mk B), B.kc, B.kn)) rfl ?_
  obtain ⟨v8, h9, hr⟩ := bd_some hr
  refine x_gI rfl rfl h9 ?_
  rcases ite_some hr with ⟨h10, hr⟩ | ⟨h10, hr⟩
  · refine x_ct rfl rfl (decide_eq_true h10) ?_
    refine x_fg (Lq.s (Lq.s (Lq.s (Lq.s (Lq.s (Lq.n (Lq.s (Lq.s Lq.nil)))))))) ?_
    exact kx (x3, B) (Option.some.inj hr).symm
  · refine x_cf rfl rfl (decide_eq_false h10) ?_
    refine x_b 3 (S2 := (36, [some (.ref x0), some (.ref 0), some (.ref x2), some (.int x3), some (.int x4), some (.int x5), none, none], [.int x5, .int x4, .ref 0], (mk B), B.kc, B.kn)) rfl ?_
    obtain ⟨⟨r12, B13⟩, h11, hr⟩ := bd_some hr
    have hr9 := xq_some hr
    clear hr
    rcases hr9 with ⟨X14, rfl, hr⟩ | ⟨v15, rfl, hr⟩
    · cases hr
    refine x_cW (m_99 h11) rfl rfl rfl rfl (am_recv_v ((rg_pp (W := B)).lt (i := 0) (show 0 < 1 by decide)) ((rg_pp (W := B)).at (i := 0) rfl) rfl) (by omega) ?_
    refine x_b 1 (S2 := (40, [some (.ref x0), some (.ref 0), some (.ref x2), some (.int x3), some (.int x4), some (.int x5), none, none], [.ref x0, .int v15], (mk B13), B13.kc, B13.kn)) rfl ?_
    obtain ⟨v16, h17, hr⟩ := bd_some hr
    refine x_gR rfl rfl h17 ?_
    refine x_b 1 (S2 := (45, [some (.ref x0), some (.ref 0), some (.ref x2), some (.int x3), some (.int x4), some (.int x5), none, none], [.int x4, .ref v16, .int v15], (mk B13), B13.kc, B13.kn)) rfl ?_
    obtain ⟨v18, h19, hr⟩ := bd_some hr
    refine x_aR rfl rfl h19 ?_
    refine x_b 1 (S2 := (48, [some (.ref x0), some (.ref 0), some (.ref x2), some (.int x3), some (.int x4), some (.int x5), none, none], [.int x5, .ref v18, .int v15], (mk B13), B13.kc, B13.kn)) rfl ?_
    obtain ⟨v20, h21, hr⟩ := bd_some hr
    refine x_aB rfl rfl h21 ?_
    rcases ite_some hr with ⟨h22, hr⟩ | ⟨h22, hr⟩
    · refine x_ct rfl rfl (decide_eq_true h22) ?_
      refine x_fg (Lq.n (Lq.n (Lq.n (Lq.n (Lq.n (Lq.n (Lq.s (Lq.s Lq.nil)))))))) ?_
      exact j_317_22_j70 hd hr ka kx kr
    · refine x_cf rfl rfl (decide_eq_false h22) ?_
      refine x_b 3 (S2 := (57, [some (.ref x0), some (.ref 0), some (.ref x2), some (.int x3), some (.int x4), some (.int x5), none, none], [.int x5, .int x4, .ref 0], (mk B13), B13.kc, B13.kn)) rfl ?_
      obtain ⟨⟨r24, B25⟩, h23, hr⟩ := bd_some hr
      have hr9 := xq_some hr
      clear hr
      rcases hr9 with ⟨X26, rfl, hr⟩ | ⟨v27, rfl, hr⟩
      · cases hr
      refine x_cW (m_100 h23) rfl rfl rfl rfl (am_recv_v ((rg_pp (W := B13)).lt (i := 0) (show 0 < 1 by decide)) ((rg_pp (W := B13)).at (i := 0) rfl) rfl) (by omega) ?_
      refine x_b 2 (S2 := (63, [some (.ref x0), some (.ref 0), some (.ref x2), some (.int x3), some (.int x4), some (.int x5), none, none], [.int x4, .ref x2, .int v27], (mk B25), B25.kc, B25.kn)) rfl ?_
      obtain ⟨v28, h29, hr⟩ := bd_some hr
      refine x_aR rfl rfl h29 ?_
      refine x_b 1 (S2 := (66, [some (.ref x0), some (.ref 0), some (.ref x2), some (.int x3), some (.int x4), some (.int x5), none, none], [.int x5, .ref v28, .int v27], (mk B25), B25.kc, B25.kn)) rfl ?_
      obtain ⟨v30, h31, hr⟩ := bd_some hr
      refine x_aI rfl rfl h31 ?_
      rcases ite_some hr with ⟨h32, hr⟩ | ⟨h32, hr⟩
      · refine x_ct rfl rfl (decide_eq_true h32) ?_
        refine x_b 3 (S2 := (76, [some (.ref x0), some (.ref 0), some (.ref x2), some (.int x3), some (.int x4), some (.int x5), none, none], [.int x4, .ref x2, .int x3], (mk B25), B25.kc, B25.kn)) rfl ?_
        obtain ⟨v33, h34, hr⟩ := bd_some hr
        refine x_aR rfl rfl h34 ?_
        refine x_b 1 (S2 := (79, [some (.ref x0), some (.ref 0), some (.ref x2), some (.int x3), some (.int x4), some (.int x5), none, none], [.int x5, .ref v33, .int x3], (mk B25), B25.kc, B25.kn)) rfl ?_
        obtain ⟨v35, h36, hr⟩ := bd_some hr
        refine x_aI rfl rfl h36 ?_
        refine x_b 4 (S2 := (22, [some (.ref x0), some (.ref 0), some (.ref x2), some (.int (imx x3 v35)), some (.int x4), some (.int (x5 + 1)), none, none], [], (mk B25), B25.kc, B25.kn)) rfl ?_
        refine x_fg (Lq.s (Lq.s (Lq.s (Lq.s (Lq.s (Lq.s (Lq.s (Lq.s Lq.nil)))))))) ?_
        exact ka ((imx x3 v35), (x5 + 1), B25) (Option.some.inj hr).symm
      · refine x_cf rfl rfl (decide_eq_false h32) ?_
        refine x_fg (Lq.n (Lq.n (Lq.n (Lq.n (Lq.n (Lq.n (Lq.s (Lq.s Lq.nil)))))))) ?_
        exact j_317_22_j70 hd hr ka kx kr
def G_317_10 (x0 : Nat) (x2 : Nat) (s : Int32 × Int32 × Wd) : Option ((Int32 × Int32 × Wd) ⊕ (Int32 × Wd) ⊕ (Int32 × Wd)) := 
  match s with
  | (x3, x4, B) =>
    (B.gI x0 7 0).bind fun v5 =>
    if v5 ≤ x4 then
      some (.inr (.inl (x3, B)))
    else
      (lw (G_317_22 x0 x2 x4) 200000 (x3, 0, B)).bind fun r =>
        match r with
        | .inr r51 => some (.inr (.inr r51))
        | .inl (v38, B39) =>
          (F_102 B39 x4).bind fun (r42, B43) =>
          xq r42 (fun X44 =>
            none) fun v45 =>
          (B43.gR x0 7 2).bind fun v46 =>
          (B43.aI v46 x4).bind fun v48 =>
          if v45 = v48 then
            some (.inl (v38, (x4 + 1), B43))
          else
            some (.inr (.inr (0, B43)))
set_option maxRecDepth 200000 in
theorem g_317_10 {d : Nat} (hd : 9 ≤ d) {scr : ASc} {res : ARe} {x0 : Nat} {x2 : Nat} {s : Int32 × Int32 × Wd} {o : (Int32 × Int32 × Wd) ⊕ (Int32 × Wd) ⊕ (Int32 × Wd)} (hr : G_317_10 x0 x2 s = some o) (ka : ∀ s, o = .inl s → Ex d am_M317 scr (P_317_10 x0 x2 s) res) (kx : ∀ s, o = .inr (.inl s) → Ex d am_M317 scr (PX_317_10 x0 x2 s) res) (kr : ∀ r, o = .inr (.inr r) → res = (.inl (some (.int r.1)), mk r.2, Wd.kc r.2, Wd.kn r.2)) : Ex d am_M317 scr (P_317_10 x0 x2 s) res := by
  obtain ⟨x3, x4, B⟩ := s
  delta G_317_10 at hr
  show Ex d am_M317 scr (10, [some (.ref x0), some (.ref 0), some (.ref x2), some (.int x3), some (.int x4), none, none, none], [], (mk B), B.kc, B.kn) res
  refine x_b 2 (S2 := (13, [some (.ref x0), some (.ref 0), some (.ref x2), some (.int x3), some (.int x4), none, none, none], [.ref x0, .int x4], (mk B), B.kc, B.kn)) rfl ?_
  obtain ⟨v5, h6, hr⟩ := bd_some hr
  refine x_gI rfl rfl h6 ?_
  rcases ite_some hr with ⟨h7, hr⟩ | ⟨h7, hr⟩
  · refine x_ct rfl rfl (decide_eq_true h7) ?_
    refine x_fg (Lq.s (Lq.s (Lq.n (Lq.s (Lq.n (Lq.s (Lq.s (Lq.s Lq.nil)))))))) ?_
    exact kx (x3, B) (Option.some.inj hr).symm
  · refine x_cf rfl rfl (decide_eq_false h7) ?_
    refine x_b 2 (S2 := (22, [some (.ref x0), some (.ref 0), some (.ref x2), some (.int x3), some (.int x4), some (.int 0), none, none], [], (mk B), B.kc, B.kn)) rfl ?_
    refine x_fg (Lq.s (Lq.s (Lq.s (Lq.s (Lq.s (Lq.s (Lq.s (Lq.s Lq.nil)))))))) ?_
    obtain ⟨o40, h37, hr⟩ := bd_some hr
    refine x_lw (P := P_317_22 x0 x2 x4) (Q := fun x => match x with | .inl e => Ex d am_M317 scr (PX_317_22 x0 x2 x4 e) res | .inr r => res = (.inl (some (.int r.1)), mk r.2, Wd.kc r.2, Wd.kn r.2)) (fun s o h1 ka kx => g_317_22 hd h1 ka (fun e he => kx (.inl e) he) (fun r he => kx (.inr r) he)) _ (x3, 0, B) _ h37 ?_
    rcases o40 with ⟨v38, B39⟩ | r51
    · show Ex d am_M317 scr (90, [some (.ref x0), some (.ref 0), some (.ref x2), some (.int v38), some (.int x4), none, none, none], [], (mk B39), B39.kc, B39.kn) res
      refine x_b 2 (S2 := (93, [some (.ref x0), some (.ref 0), some (.ref x2), some (.int v38), some (.int x4), none, none, none], [.int x4, .ref 0], (mk B39), B39.kc, B39.kn)) rfl ?_
      obtain ⟨⟨r42, B43⟩, h41, hr⟩ := bd_some hr
      have hr9 := xq_some hr
      clear hr
      rcases hr9 with ⟨X44, rfl, hr⟩ | ⟨v45, rfl, hr⟩
      · cases hr
      refine x_cW (m_102 h41) rfl rfl rfl rfl (am_recv_v ((rg_pp (W := B39)).lt (i := 0) (show 0 < 1 by decide)) ((rg_pp (W := B39)).at (i := 0) rfl) rfl) (by omega) ?_
      refine x_b 1 (S2 := (97, [some (.ref x0), some (.ref 0), some (.ref x2), some (.int v38), some (.int x4), none, none, none], [.ref x0, .int v45], (mk B43), B43.kc, B43.kn)) rfl ?_
      obtain ⟨v46, h47, hr⟩ := bd_some hr
      refine x_gR rfl rfl h47 ?_
      refine x_b 1 (S2 := (102, [some (.ref x0), some (.ref 0), some (.ref x2), some (.int v38), some (.int x4), none, none, none], [.int x4, .ref v46, .int v45], (mk B43), B43.kc, B43.kn)) rfl ?_
      obtain ⟨v48, h49, hr⟩ := bd_some hr
      refine x_aI rfl rfl h49 ?_
      rcases ite_some hr with ⟨h50, hr⟩ | ⟨h50, hr⟩
      · refine x_ct rfl rfl (decide_eq_true h50) ?_
        refine x_b 2 (S2 := (10, [some (.ref x0), some (.ref 0), some (.ref x2), some (.int v38), some (.int (x4 + 1)), none, none, none], [], (mk B43), B43.kc, B43.kn)) rfl ?_
        refine x_fg (Lq.s (Lq.s (Lq.s (Lq.s (Lq.s (Lq.s (Lq.s (Lq.s Lq.nil)))))))) ?_
        exact ka (v38, (x4 + 1), B43) (Option.some.inj hr).symm
      · refine x_cf rfl rfl (decide_eq_false h50) ?_
        refine x_b 1 (S2 := (107, [some (.ref x0), some (.ref 0), some (.ref x2), some (.int v38), some (.int x4), none, none, none], [.int 0], (mk B43), B43.kc, B43.kn)) rfl ?_
        rw [kr _ (Option.some.inj hr).symm]
        exact x_ret rfl rfl (am_ret_z (by decide))
    · exact kr _ (Option.some.inj hr).symm
abbrev P_317_165 (x0 : Nat) (x4 : Nat) (s : Int32 × Wd) : ASt := (165, [some (.ref x0), some (.ref 0), none, none, some (.ref x4), some (.int s.1), none, none], [], (mk s.2), Wd.kc s.2, Wd.kn s.2)
abbrev PX_317_165 (x0 : Nat) (x4 : Nat) (s : Wd) : ASt := (194, [some (.ref x0), some (.ref 0), none, none, none, none, none, none], [], (mk s), Wd.kc s, Wd.kn s)
def G_317_165 (x0 : Nat) (x4 : Nat) (s : Int32 × Wd) : Option ((Int32 × Wd) ⊕ (Wd) ⊕ (Int32 × Wd)) := 
  match s with
  | (x5, B) =>
    if 6 ≤ x5 then
      some (.inr (.inl B))
    else
      (F_98 B x5).bind fun (r88, B89) =>
      xq r88 (fun X90 =>
        none) fun v91 =>
      (B89.aI x4 x5).bind fun v92 =>
      if v91 = v92 then
        some (.inl ((x5 + 1), B89))
      else
        some (.inr (.inr (0, B89)))
set_option maxRecDepth 200000 in
theorem g_317_165 {d : Nat} (hd : 9 ≤ d) {scr : ASc} {res : ARe} {x0 : Nat} {x4 : Nat} {s : Int32 × Wd} {o : (Int32 × Wd) ⊕ (Wd) ⊕ (Int32 × Wd)} (hr : G_317_165 x0 x4 s = some o) (ka : ∀ s, o = .inl s → Ex d am_M317 scr (P_317_165 x0 x4 s) res) (kx : ∀ s, o = .inr (.inl s) → Ex d am_M317 scr (PX_317_165 x0 x4 s) res) (kr : ∀ r, o = .inr (.inr r) → res = (.inl (some (.int r.1)), mk r.2, Wd.kc r.2, Wd.kn r.2)) : Ex d am_M317 scr (P_317_165 x0 x4 s) res := by
  obtain ⟨x5, B⟩ := s
  delta G_317_165 at hr
  show Ex d am_M317 scr (165, [some (.ref x0), some (.ref 0), none, none, some (.ref x4), some (.int x5), none, none], [], (mk B), B.kc, B.kn) res
  refine x_b 2 (S2 := (169, [some (.ref x0), some (.ref 0), none, none, some (.ref x4), some (.int x5), none, none], [.int 6, .int x5], (mk B), B.kc, B.kn)) rfl ?_
  rcases ite_some hr with ⟨h86, hr⟩ | ⟨h86, hr⟩
  · refine x_ct rfl rfl (decide_eq_true h86) ?_
    refine x_fg (Lq.s (Lq.s (Lq.s (Lq.s (Lq.n (Lq.n (Lq.s (Lq.s Lq.nil)))))))) ?_
    exact kx B (Option.some.inj hr).symm
  · refine x_cf rfl rfl (decide_eq_false h86) ?_
    refine x_b 2 (S2 := (175, [some (.ref x0), some (.ref 0), none, none, some (.ref x4), some (.int x5), none, none], [.int x5, .ref 0], (mk B), B.kc, B.kn)) rfl ?_
    obtain ⟨⟨r88, B89⟩, h87, hr⟩ := bd_some hr
    have hr9 := xq_some hr
    clear hr
    rcases hr9 with ⟨X90, rfl, hr⟩ | ⟨v91, rfl, hr⟩
    · cases hr
    refine x_cW (m_98 h87) rfl rfl rfl rfl (am_recv_v ((rg_pp (W := B)).lt (i := 0) (show 0 < 1 by decide)) ((rg_pp (W := B)).at (i := 0) rfl) rfl) (by omega) ?_
    refine x_b 2 (S2 := (182, [some (.ref x0), some (.ref 0), none, none, some (.ref x4), some (.int x5), none, none], [.int x5, .ref x4, .int v91], (mk B89), B89.kc, B89.kn)) rfl ?_
    obtain ⟨v92, h93, hr⟩ := bd_some hr
    refine x_aI rfl rfl h93 ?_
    rcases ite_some hr with ⟨h94, hr⟩ | ⟨h94, hr⟩
    · refine x_ct rfl rfl (decide_eq_true h94) ?_
      refine x_b 2 (S2 := (165, [some (.ref x0), some (.ref 0), none, none, some (.ref x4), some (.int (x5 + 1)), none, none], [], (mk B89), B89.kc, B89.kn)) rfl ?_
      refine x_fg (Lq.s (Lq.s (Lq.s (Lq.s (Lq.s (Lq.s (Lq.s (Lq.s Lq.nil)))))))) ?_
      exact ka ((x5 + 1), B89) (Option.some.inj hr).symm
    · refine x_cf rfl rfl (decide_eq_false h94) ?_
      refine x_b 1 (S2 := (187, [some (.ref x0), some (.ref 0), none, none, some (.ref x4), some (.int x5), none, none], [.int 0], (mk B89), B89.kc, B89.kn)) rfl ?_
      rw [kr _ (Option.some.inj hr).symm]
      exact x_ret rfl rfl (am_ret_z (by decide))
abbrev P_317_197 (x0 : Nat) (s : Int32 × Wd) : ASt := (197, [some (.ref x0), some (.ref 0), none, none, none, some (.int s.1), none, none], [], (mk s.2), Wd.kc s.2, Wd.kn s.2)
abbrev PX_317_197 (x0 : Nat) (s : Wd) : ASt := (304, [none, none, none, none, none, none, none, none], [], (mk s), Wd.kc s, Wd.kn s)
abbrev P_317_226 (x0 : Nat) (x5 : Int32) (x6 : Nat) (s : Int32 × Wd) : ASt := (226, [some (.ref x0), some (.ref 0), none, none, none, some (.int x5), some (.ref x6), some (.int s.1)], [], (mk s.2), Wd.kc s.2, Wd.kn s.2)
abbrev PX_317_226 (x0 : Nat) (x5 : Int32) (x6 : Nat) (s : Wd) : ASt := (298, [some (.ref x0), some (.ref 0), none, none, none, some (.int x5), none, none], [], (mk s), Wd.kc s, Wd.kn s)
def J_317_226_j290 (B : Wd) (x0 : Nat) (x5 : Int32) (x6 : Nat) : Option ((Int32 × Wd) ⊕ (Wd) ⊕ (Int32 × Wd)) :=
  some (.inr (.inr (0, B)))
set_option maxRecDepth 200000 in
theorem j_317_226_j290 {d : Nat} (hd : 9 ≤ d) {scr : ASc} {res : ARe} {B : Wd} {x0 : Nat} {x5 : Int32} {x6 : Nat} {o : (Int32 × Wd) ⊕ (Wd) ⊕ (Int32 × Wd)} (hr : J_317_226_j290 B x0 x5 x6 = some o) (ka : ∀ s, o = .inl s → Ex d am_M317 scr (P_317_226 x0 x5 x6 s) res) (kx : ∀ s, o = .inr (.inl s) → Ex d am_M317 scr (PX_317_226 x0 x5 x6 s) res) (kr : ∀ r, o = .inr (.inr r) → res = (.inl (some (.int r.1)), mk r.2, Wd.kc r.2, Wd.kn r.2)) : Ex d am_M317 scr (290, [none, none, none, none, none, none, none, none], [], (mk B), B.kc, B.kn) res := by
  delta J_317_226_j290 at hr
  refine x_b 1 (S2 := (291, [none, none, none, none, none, none, none, none], [.int 0], (mk B), B.kc, B.kn)) rfl ?_
  rw [kr _ (Option.some.inj hr).symm]
  exact x_ret rfl rfl (am_ret_z (by decide))
def G_317_226 (x0 : Nat) (x5 : Int32) (x6 : Nat) (s : Int32 × Wd) : Option ((Int32 × Wd) ⊕ (Wd) ⊕ (Int32 × Wd)) := 
  match s with
  | (x7, B) =>
    (B.gI x0 7 0).bind fun v110 =>
    if v110 ≤ x7 then
      some (.inr (.inl B))
    else
      (F_115 B x5 x7 0).bind fun (r114, B115) =>
      xq r114 (fun X116 =>
        none) fun v117 =>
      (B115.aI x6 0).bind fun v118 =>
      if ¬ v117 = v118 then
        J_317_226_j290 B115 x0 x5 x6
      else
        (F_115 B115 x5 x7 1).bind fun (r122, B123) =>
        xq r122 (fun X124 =>
          none) fun v125 =>
        (B123.aI x6 (1 + x7)).bind fun v126 =>
        if ¬ v125 = v126 then
          J_317_226_j290 B123 x0 x5 x6
        else
          (F_115 B123 x5 x7 2).bind fun (r130, B131) =>
          xq r130 (fun X132 =>
            none) fun v133 =>
          (B131.aI x6 (7 + x7)).bind fun v134 =>
          if v133 = v134 then
            some (.inl ((x7 + 1), B131))
          else
            J_317_226_j290 B131 x0 x5 x6
set_option maxRecDepth 200000 in
theorem g_317_226 {d : Nat} (hd : 9 ≤ d) {scr : ASc} {res : ARe} {x0 : Nat} {x5 : Int32} {x6 : Nat} {s : Int32 × Wd} {o : (Int32 × Wd) ⊕ (Wd) ⊕ (Int32 × Wd)} (hr : G_317_226 x0 x5 x6 s = some o) (ka : ∀ s, o = .inl s → Ex d am_M317 scr (P_317_226 x0 x5 x6 s) res) (kx : ∀ s, o = .inr (.inl s) → Ex d am_M317 scr (PX_317_226 x0 x5 x6 s) res) (kr : ∀ r, o = .inr (.inr r) → res = (.inl (some (.int r.1)), mk r.2, Wd.kc r.2, Wd.kn r.2)) : Ex d am_M317 scr (P_317_226 x0 x5 x6 s) res := by
  obtain ⟨x7, B⟩ := s
  delta G_317_226 at hr
  show Ex d am_M317 scr (226, [some (.ref x0), some (.ref 0), none, none, none, some (.int x5), some (.ref x6), some (.int x7)], [], (mk B), B.kc, B.kn) res
  refine x_b 2 (S2 := (229, [some (.ref x0), some (.ref 0), none, none, none, some (.int x5), some (.ref x6), some (.int x7)], [.ref x0, .int x7], (mk B), B.kc, B.kn)) rfl ?_
  obtain ⟨v110, h111, hr⟩ := bd_some hr
  refine x_gI rfl rfl h111 ?_
  rcases ite_some hr with ⟨h112, hr⟩ | ⟨h112, hr⟩
  · refine x_ct rfl rfl (decide_eq_true h112) ?_
    refine x_fg (Lq.s (Lq.s (Lq.s (Lq.s (Lq.s (Lq.s (Lq.n (Lq.n Lq.nil)))))))) ?_
    exact kx B (Option.some.inj hr).symm
  · refine x_cf rfl rfl (decide_eq_false h112) ?_
    refine x_b 4 (S2 := (241, [some (.ref x0), some (.ref 0), none, none, none, some (.int x5), some (.ref x6), some (.int x7)], [.int 0, .int x7, .int x5, .ref 0], (mk B), B.kc, B.kn)) rfl ?_
    obtain ⟨⟨r114, B115⟩, h113, hr⟩ := bd_some hr
    have hr9 := xq_some hr
    clear hr
    rcases hr9 with ⟨X116, rfl, hr⟩ | ⟨v117, rfl, hr⟩
    · cases hr
    refine x_cW (m_115 h113) rfl rfl rfl rfl (am_recv_v ((rg_pp (W := B)).lt (i := 0) (show 0 < 1 by decide)) ((rg_pp (W := B)).at (i := 0) rfl) rfl) (by omega) ?_
    refine x_b 2 (S2 := (247, [some (.ref x0), some (.ref 0), none, none, none, some (.int x5), some (.ref x6), some (.int x7)], [.int 0, .ref x6, .int v117], (mk B115), B115.kc, B115.kn)) rfl ?_
    obtain ⟨v118, h119, hr⟩ := bd_some hr
    refine x_aI rfl rfl h119 ?_
    rcases ite_some hr with ⟨h120, hr⟩ | ⟨h120, hr⟩
    · refine x_ct rfl rfl (decide_eq_true h120) ?_
      refine x_fg (Lq.n (Lq.n (Lq.s (Lq.s (Lq.s (Lq.n (Lq.n (Lq.n Lq.nil)))))))) ?_
      exact j_317_226_j290 hd hr ka kx kr
    · refine x_cf rfl rfl (decide_eq_false h120) ?_
      refine x_b 4 (S2 := (257, [some (.ref x0), some (.ref 0), none, none, none, some (.int x5), some (.ref x6), some (.int x7)], [.int 1, .int x7, .int x5, .ref 0], (mk B115), B115.kc, B115.kn)) rfl ?_
      obtain ⟨⟨r122, B123⟩, h121, hr⟩ := bd_some hr
      have hr9 := xq_some hr
      clear hr
      rcases hr9 with ⟨X124, rfl, hr⟩ | ⟨v125, rfl, hr⟩
      · cases hr
      refine x_cW (m_115 h121) rfl rfl rfl rfl (am_recv_v ((rg_pp (W := B115)).lt (i := 0) (show 0 < 1 by decide)) ((rg_pp (W := B115)).at (i := 0) rfl) rfl) (by omega) ?_
      refine x_b 4 (S2 := (266, [some (.ref x0), some (.ref 0), none, none, none, some (.int x5), some (.ref x6), some (.int x7)], [.int (1 + x7), .ref x6, .int v125], (mk B123), B123.kc, B123.kn)) rfl ?_
      obtain ⟨v126, h127, hr⟩ := bd_some hr
      refine x_aI rfl rfl h127 ?_
      rcases ite_some hr with ⟨h128, hr⟩ | ⟨h128, hr⟩
      · refine x_ct rfl rfl (decide_eq_true h128) ?_
        refine x_fg (Lq.n (Lq.n (Lq.s (Lq.s (Lq.s (Lq.n (Lq.n (Lq.n Lq.nil)))))))) ?_
        exact j_317_226_j290 hd hr ka kx kr
      · refine x_cf rfl rfl (decide_eq_false h128) ?_
        refine x_b 4 (S2 := (276, [some (.ref x0), some (.ref 0), none, none, none, some (.int x5), some (.ref x6), some (.int x7)], [.int 2, .int x7, .int x5, .ref 0], (mk B123), B123.kc, B123.kn)) rfl ?_
        obtain ⟨⟨r130, B131⟩, h129, hr⟩ := bd_some hr
        have hr9 := xq_some hr
        clear hr
        rcases hr9 with ⟨X132, rfl, hr⟩ | ⟨v133, rfl, hr⟩
        · cases hr
        refine x_cW (m_115 h129) rfl rfl rfl rfl (am_recv_v ((rg_pp (W := B123)).lt (i := 0) (show 0 < 1 by decide)) ((rg_pp (W := B123)).at (i := 0) rfl) rfl) (by omega) ?_
        refine x_b 4 (S2 := (286, [some (.ref x0), some (.ref 0), none, none, none, some (.int x5), some (.ref x6), some (.int x7)], [.int (7 + x7), .ref x6, .int v133], (mk B131), B131.kc, B131.kn)) rfl ?_
        obtain ⟨v134, h135, hr⟩ := bd_some hr
        refine x_aI rfl rfl h135 ?_
        rcases ite_some hr with ⟨h136, hr⟩ | ⟨h136, hr⟩
        · refine x_ct rfl rfl (decide_eq_true h136) ?_
          refine x_b 2 (S2 := (226, [some (.ref x0), some (.ref 0), none, none, none, some (.int x5), some (.ref x6), some (.int (x7 + 1))], [], (mk B131), B131.kc, B131.kn)) rfl ?_
          refine x_fg (Lq.s (Lq.s (Lq.s (Lq.s (Lq.s (Lq.s (Lq.s (Lq.s Lq.nil)))))))) ?_
          exact ka ((x7 + 1), B131) (Option.some.inj hr).symm
        · refine x_cf rfl rfl (decide_eq_false h136) ?_
          refine x_fg (Lq.n (Lq.n (Lq.s (Lq.s (Lq.s (Lq.n (Lq.n (Lq.n Lq.nil)))))))) ?_
          exact j_317_226_j290 hd hr ka kx kr
def G_317_197 (x0 : Nat) (s : Int32 × Wd) : Option ((Int32 × Wd) ⊕ (Wd) ⊕ (Int32 × Wd)) := 
  match s with
  | (x5, B) =>
    (B.gR x0 7 4).bind fun v98 =>
    (B.rc v98 10).bind fun _ =>
    (F_349 B v98).bind fun v102 =>
    if v102 ≤ x5 then
      some (.inr (.inl B))
    else
      (B.gR x0 7 4).bind fun v104 =>
      (B.rc v104 10).bind fun _ =>
      (F_352 B v104 x5).bind fun v108 =>
      (B.ra v108 0).bind fun _ =>
      (lw (G_317_226 x0 x5 v108) 200000 (0, B)).bind fun r =>
        match r with
        | .inr r140 => some (.inr (.inr r140))
        | .inl B138 =>
          some (.inl ((x5 + 1), B138))
set_option maxRecDepth 200000 in
theorem g_317_197 {d : Nat} (hd : 9 ≤ d) {scr : ASc} {res : ARe} {x0 : Nat} {s : Int32 × Wd} {o : (Int32 × Wd) ⊕ (Wd) ⊕ (Int32 × Wd)} (hr : G_317_197 x0 s = some o) (ka : ∀ s, o = .inl s → Ex d am_M317 scr (P_317_197 x0 s) res) (kx : ∀ s, o = .inr (.inl s) → Ex d am_M317 scr (PX_317_197 x0 s) res) (kr : ∀ r, o = .inr (.inr r) → res = (.inl (some (.int r.1)), mk r.2, Wd.kc r.2, Wd.kn r.2)) : Ex d am_M317 scr (P_317_197 x0 s) res := by
  obtain ⟨x5, B⟩ := s
  delta G_317_197 at hr
  show Ex d am_M317 scr (197, [some (.ref x0), some (.ref 0), none, none, none, some (.int x5), none, none], [], (mk B), B.kc, B.kn) res
  refine x_b 2 (S2 := (200, [some (.ref x0), some (.ref 0), none, none, none, some (.int x5), none, none], [.ref x0, .int x5], (mk B), B.kc, B.kn)) rfl ?_
  obtain ⟨v98, h99, hr⟩ := bd_some hr
  refine x_gR rfl rfl h99 ?_
  obtain ⟨uh100, h100, hr⟩ := bd_some hr
  obtain ⟨v102, h101, hr⟩ := bd_some hr
  refine x_cW (m_349 h101) rfl rfl rfl rfl (am_recv_c h100 (.inl rfl)) (by omega) ?_
  rcases ite_some hr with ⟨h103, hr⟩ | ⟨h103, hr⟩
  · refine x_ct rfl rfl (decide_eq_true h103) ?_
    refine x_fg (Lq.n (Lq.n (Lq.s (Lq.s (Lq.s (Lq.n (Lq.s (Lq.s Lq.nil)))))))) ?_
    exact kx B (Option.some.inj hr).symm
  · refine x_cf rfl rfl (decide_eq_false h103) ?_
    refine x_b 1 (S2 := (210, [some (.ref x0), some (.ref 0), none, none, none, some (.int x5), none, none], [.ref x0], (mk B), B.kc, B.kn)) rfl ?_
    obtain ⟨v104, h105, hr⟩ := bd_some hr
    refine x_gR rfl rfl h105 ?_
    refine x_b 1 (S2 := (215, [some (.ref x0), some (.ref 0), none, none, none, some (.int x5), none, none], [.int x5, .ref v104], (mk B), B.kc, B.kn)) rfl ?_
    obtain ⟨uh106, h106, hr⟩ := bd_some hr
    obtain ⟨v108, h107, hr⟩ := bd_some hr
    refine x_cW (m_352 h107) rfl rfl rfl rfl (am_recv_c h106 (.inl rfl)) (by omega) ?_
    obtain ⟨uh109, h109, hr⟩ := bd_some hr
    refine x_ckA (t := 0) rfl rfl h109 ?_
    refine x_b 3 (S2 := (226, [some (.ref x0), some (.ref 0), none, none, none, some (.int x5), some (.ref v108), some (.int 0)], [], (mk B), B.kc, B.kn)) rfl ?_
    refine x_fg (Lq.s (Lq.s (Lq.s (Lq.s (Lq.s (Lq.s (Lq.s (Lq.s Lq.nil)))))))) ?_
    obtain ⟨o139, h137, hr⟩ := bd_some hr
    refine x_lw (P := P_317_226 x0 x5 v108) (Q := fun x => match x with | .inl e => Ex d am_M317 scr (PX_317_226 x0 x5 v108 e) res | .inr r => res = (.inl (some (.int r.1)), mk r.2, Wd.kc r.2, Wd.kn r.2)) (fun s o h1 ka kx => g_317_226 hd h1 ka (fun e he => kx (.inl e) he) (fun r he => kx (.inr r) he)) _ (0, B) _ h137 ?_
    rcases o139 with B138 | r140
    · show Ex d am_M317 scr (298, [some (.ref x0), some (.ref 0), none, none, none, some (.int x5), none, none], [], (mk B138), B138.kc, B138.kn) res
      refine x_b 2 (S2 := (197, [some (.ref x0), some (.ref 0), none, none, none, some (.int (x5 + 1)), none, none], [], (mk B138), B138.kc, B138.kn)) rfl ?_
      refine x_fg (Lq.s (Lq.s (Lq.s (Lq.s (Lq.s (Lq.s (Lq.s (Lq.s Lq.nil)))))))) ?_
      exact ka ((x5 + 1), B138) (Option.some.inj hr).symm
    · exact kr _ (Option.some.inj hr).symm
/-- PebbleProofsLaw$Yard.isAs(LPebbleProofs;)Z -/
def F_317 (B : Wd) (x0 : Nat) : Option (Int32 × Wd) :=
  (B.rc x0 7).bind fun _ =>
  (F_306 B x0).bind fun (a3, B4) =>
  (lw (G_317_10 x0 a3) 200000 (0, 0, B4)).bind fun r =>
    match r with
    | .inr r146 => some r146
    | .inl (v53, B54) =>
      (B54.nA 0 6).bind fun (a56, B57) =>
      (B57.gI x0 7 0).bind fun v59 =>
      (B57.sI a56 0 v59).bind fun B61 =>
      (B61.rc x0 7).bind fun _ =>
      (F_305 B61 x0).bind fun v65 =>
      (B61.sI a56 1 v65).bind fun B66 =>
      (B66.rc x0 7).bind fun _ =>
      (F_316 B66 x0).bind fun v70 =>
      (B66.sI a56 2 v70).bind fun B71 =>
      (B71.gI x0 7 3).bind fun v73 =>
      (B71.sI a56 3 v73).bind fun B75 =>
      (B75.gR x0 7 4).bind fun v77 =>
      (B75.rc v77 10).bind fun _ =>
      (F_349 B75 v77).bind fun v81 =>
      (B75.sI a56 4 v81).bind fun B82 =>
      (B82.sI a56 5 v53).bind fun B84 =>
      (lw (G_317_165 x0 a56) 200000 (0, B84)).bind fun r =>
        match r with
        | .inr r145 => some r145
        | .inl B96 =>
          (lw (G_317_197 x0) 200000 (0, B96)).bind fun r =>
            match r with
            | .inr r144 => some r144
            | .inl B142 =>
              some (1, B142)
set_option maxRecDepth 200000 in
theorem f_317 {d : Nat} (hd : 9 ≤ d) {scr : ASc} {res : ARe} {B : Wd} {x0 : Nat} {o : Int32 × Wd} (hr : F_317 B x0 = some o) (kr : res = (.inl (some (.int o.1)), mk o.2, Wd.kc o.2, Wd.kn o.2)) : Ex d am_M317 scr (0, [some (.ref x0), some (.ref 0), none, none, none, none, none, none], [], (mk B), B.kc, B.kn) res := by
  delta F_317 at hr
  refine x_b 1 (S2 := (1, [some (.ref x0), some (.ref 0), none, none, none, none, none, none], [.ref x0], (mk B), B.kc, B.kn)) rfl ?_
  obtain ⟨uh1, h1, hr⟩ := bd_some hr
  obtain ⟨⟨a3, B4⟩, h2, hr⟩ := bd_some hr
  refine x_cW (m_306 h2) rfl rfl rfl rfl (am_recv_c h1 (.inl rfl)) (by omega) ?_
  refine x_b 5 (S2 := (10, [some (.ref x0), some (.ref 0), some (.ref a3), some (.int 0), some (.int 0), none, none, none], [], (mk B4), B4.kc, B4.kn)) rfl ?_
  refine x_fg (Lq.s (Lq.s (Lq.s (Lq.s (Lq.s (Lq.s (Lq.s (Lq.s Lq.nil)))))))) ?_
  obtain ⟨o55, h52, hr⟩ := bd_some hr
  refine x_lw (P := P_317_10 x0 a3) (Q := fun x => match x with | .inl e => Ex d am_M317 scr (PX_317_10 x0 a3 e) res | .inr r => res = (.inl (some (.int r.1)), mk r.2, Wd.kc r.2, Wd.kn r.2)) (fun s o h1 ka kx => g_317_10 hd h1 ka (fun e he => kx (.inl e) he) (fun r he => kx (.inr r) he)) _ (0, 0, B4) _ h52 ?_
  rcases o55 with ⟨v53, B54⟩ | r146
  · show Ex d am_M317 scr (114, [some (.ref x0), some (.ref 0), none, some (.int v53), none, none, none, none], [], (mk B54), B54.kc, B54.kn) res
    refine x_b 1 (S2 := (116, [some (.ref x0), some (.ref 0), none, some (.int v53), none, none, none, none], [.int 6], (mk B54), B54.kc, B54.kn)) rfl ?_
    obtain ⟨⟨a56, B57⟩, h58, hr⟩ := bd_some hr
    refine x_nA rfl rfl (.inl ⟨rfl, rfl⟩) h58 ?_
    refine x_b 3 (S2 := (121, [some (.ref x0), some (.ref 0), none, some (.int v53), none, none, none, none], [.ref x0, .int 0, .ref a56, .ref a56], (mk B57), B57.kc, B57.kn)) rfl ?_
    obtain ⟨v59, h60, hr⟩ := bd_some hr
    refine x_gI rfl rfl h60 ?_
    obtain ⟨B61, h62, hr⟩ := bd_some hr
    refine x_sI rfl rfl h62 ?_
    refine x_b 3 (S2 := (128, [some (.ref x0), some (.ref 0), none, some (.int v53), none, none, none, none], [.ref x0, .int 1, .ref a56, .ref a56], (mk B61), B61.kc, B61.kn)) rfl ?_
    obtain ⟨uh63, h63, hr⟩ := bd_some hr
    obtain ⟨v65, h64, hr⟩ := bd_some hr
    refine x_cW (m_305 h64) rfl rfl rfl rfl (am_recv_c h63 (.inl rfl)) (by omega) ?_
    obtain ⟨B66, h67, hr⟩ := bd_some hr
    refine x_sI rfl rfl h67 ?_
    refine x_b 3 (S2 := (135, [some (.ref x0), some (.ref 0), none, some (.int v53), none, none, none, none], [.ref x0, .int 2, .ref a56, .ref a56], (mk B66), B66.kc, B66.kn)) rfl ?_
    obtain ⟨uh68, h68, hr⟩ := bd_some hr
    obtain ⟨v70, h69, hr⟩ := bd_some hr
    refine x_cW (m_316 h69) rfl rfl rfl rfl (am_recv_c h68 (.inl rfl)) (by omega) ?_
    obtain ⟨B71, h72, hr⟩ := bd_some hr
    refine x_sI rfl rfl h72 ?_
    refine x_b 3 (S2 := (142, [some (.ref x0), some (.ref 0), none, some (.int v53), none, none, none, none], [.ref x0, .int 3, .ref a56, .ref a56], (mk B71), B71.kc, B71.kn)) rfl ?_
    obtain ⟨v73, h74, hr⟩ := bd_some hr
    refine x_gI rfl rfl h74 ?_
    obtain ⟨B75, h76, hr⟩ := bd_some hr
    refine x_sI rfl rfl h76 ?_
    refine x_b 3 (S2 := (149, [some (.ref x0), some (.ref 0), none, some (.int v53), none, none, none, none], [.ref x0, .int 4, .ref a56, .ref a56], (mk B75), B75.kc, B75.kn)) rfl ?_
    obtain ⟨v77, h78, hr⟩ := bd_some hr
    refine x_gR rfl rfl h78 ?_
    obtain ⟨uh79, h79, hr⟩ := bd_some hr
    obtain ⟨v81, h80, hr⟩ := bd_some hr
    refine x_cW (m_349 h80) rfl rfl rfl rfl (am_recv_c h79 (.inl rfl)) (by omega) ?_
    obtain ⟨B82, h83, hr⟩ := bd_some hr
    refine x_sI rfl rfl h83 ?_
    refine x_b 3 (S2 := (159, [some (.ref x0), some (.ref 0), none, some (.int v53), none, none, none, none], [.int v53, .int 5, .ref a56, .ref a56], (mk B82), B82.kc, B82.kn)) rfl ?_
    obtain ⟨B84, h85, hr⟩ := bd_some hr
    refine x_sI rfl rfl h85 ?_
    refine x_b 3 (S2 := (165, [some (.ref x0), some (.ref 0), none, some (.int v53), some (.ref a56), some (.int 0), none, none], [], (mk B84), B84.kc, B84.kn)) rfl ?_
    refine x_fg (Lq.s (Lq.s (Lq.s (Lq.n (Lq.s (Lq.s (Lq.s (Lq.s Lq.nil)))))))) ?_
    obtain ⟨o97, h95, hr⟩ := bd_some hr
    refine x_lw (P := P_317_165 x0 a56) (Q := fun x => match x with | .inl e => Ex d am_M317 scr (PX_317_165 x0 a56 e) res | .inr r => res = (.inl (some (.int r.1)), mk r.2, Wd.kc r.2, Wd.kn r.2)) (fun s o h1 ka kx => g_317_165 hd h1 ka (fun e he => kx (.inl e) he) (fun r he => kx (.inr r) he)) _ (0, B84) _ h95 ?_
    rcases o97 with B96 | r145
    · show Ex d am_M317 scr (194, [some (.ref x0), some (.ref 0), none, none, none, none, none, none], [], (mk B96), B96.kc, B96.kn) res
      refine x_b 2 (S2 := (197, [some (.ref x0), some (.ref 0), none, none, none, some (.int 0), none, none], [], (mk B96), B96.kc, B96.kn)) rfl ?_
      refine x_fg (Lq.s (Lq.s (Lq.s (Lq.s (Lq.s (Lq.s (Lq.s (Lq.s Lq.nil)))))))) ?_
      obtain ⟨o143, h141, hr⟩ := bd_some hr
      refine x_lw (P := P_317_197 x0) (Q := fun x => match x with | .inl e => Ex d am_M317 scr (PX_317_197 x0 e) res | .inr r => res = (.inl (some (.int r.1)), mk r.2, Wd.kc r.2, Wd.kn r.2)) (fun s o h1 ka kx => g_317_197 hd h1 ka (fun e he => kx (.inl e) he) (fun r he => kx (.inr r) he)) _ (0, B96) _ h141 ?_
      rcases o143 with B142 | r144
      · show Ex d am_M317 scr (304, [none, none, none, none, none, none, none, none], [], (mk B142), B142.kc, B142.kn) res
        refine x_b 1 (S2 := (305, [none, none, none, none, none, none, none, none], [.int 1], (mk B142), B142.kc, B142.kn)) rfl ?_
        cases hr
        rw [kr]
        exact x_ret rfl rfl (am_ret_z (by decide))
      · cases hr; exact kr
    · cases hr; exact kr
  · cases hr; exact kr
set_option maxRecDepth 200000 in
theorem m_317 {scr : ASc} {B : Wd} {x0 : Nat} {o : Int32 × Wd} (hr : F_317 B x0 = some o) : RnW scr 10 317 [.ref x0, .ref 0] B (.inl (some (.int o.1))) o.2 :=
  x_methW (M := am_M317) rfl (show 2 ≤ 8 by decide) (f_317 (Nat.le_refl _) hr rfl)
