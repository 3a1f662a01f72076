/-! ===== STAGE A: THE CLASS OVER THE WORLD (by wip/p47/genw.py) ===== -/
def J_37_0_j35 (B : Wd) (t0 : Int32) : Option (Int32) :=
  if t0 = 0 ∨ t0 = 1 then some t0 else none
theorem j_37_0_j35 {d : Nat} (hd : 1 ≤ d) {scr : ASc} {res : ARe} {B : Wd} {t0 : Int32} {o : Int32} (hr : J_37_0_j35 B t0 = some o) (kr : res = (.inl (some (.int o)), mk B, Wd.kc B, Wd.kn B)) : Ex d am_M37 scr (35, [none, none], [.int t0], (mk B), B.kc, B.kn) res := by
  delta J_37_0_j35 at hr
  obtain ⟨h4, hr⟩ := itn_some hr
  cases hr
  rw [kr]
  exact x_ret rfl rfl (am_ret_z h4)
def J_37_0_j34 (B : Wd) : Option (Int32) :=
  J_37_0_j35 B 0
theorem j_37_0_j34 {d : Nat} (hd : 1 ≤ d) {scr : ASc} {res : ARe} {B : Wd} {o : Int32} (hr : J_37_0_j34 B = some o) (kr : res = (.inl (some (.int o)), mk B, Wd.kc B, Wd.kn B)) : Ex d am_M37 scr (34, [none, none], [], (mk B), B.kc, B.kn) res := by
  delta J_37_0_j34 at hr
  refine x_b 1 (S2 := (35, [none, none], [.int 0], (mk B), B.kc, B.kn)) rfl ?_
  refine x_fg (Lq.s (Lq.s Lq.nil)) ?_
  exact j_37_0_j35 hd hr kr
/-- PebbleProofs$FailingPiles.areOf(LPebbleProofs$Board;)Z -/
def F_37 (B : Wd) (x0 : Nat) : Option (Int32) :=
  (B.fp x0).bind fun D1 =>
  if D1.isMade = 0 then
    J_37_0_j34 B
  else
    if ¬ D1.vertices = B.board.vertices then
      J_37_0_j34 B
    else
      if ¬ (lg_cmp D1.edges B.board.edges) = 0 then
        J_37_0_j34 B
      else
        J_37_0_j35 B 1
theorem f_37 {d : Nat} (hd : 1 ≤ d) {scr : ASc} {res : ARe} {B : Wd} {x0 : Nat} {o : Int32} (hr : F_37 B x0 = some o) (kr : res = (.inl (some (.int o)), mk B, Wd.kc B, Wd.kn B)) : Ex d am_M37 scr (0, [some (.ref x0), some (.ref 1)], [], (mk B), B.kc, B.kn) res := by
  delta F_37 at hr
  obtain ⟨D1, h2, hr⟩ := bd_some hr
  refine x_ldan rfl rfl rfl ((rg_fp h2).lt (i := 0) (show 0 < 6 by decide)) ?_
  refine x_getf rfl rfl ((rg_fp h2).lt (i := 0) (show 0 < 6 by decide)) ((rg_fp h2).at (i := 0) rfl) rfl ?_
  rcases ite_some hr with ⟨h3, hr⟩ | ⟨h3, hr⟩
  · refine x_zt rfl rfl (decide_eq_true h3) ?_
    refine x_fg (Lq.n (Lq.n Lq.nil)) ?_
    exact j_37_0_j34 hd hr kr
  · refine x_zf rfl rfl (decide_eq_false h3) ?_
    refine x_ldan rfl rfl rfl ((rg_fp h2).lt (i := 0) (show 0 < 6 by decide)) ?_
    refine x_getf rfl rfl ((rg_fp h2).lt (i := 0) (show 0 < 6 by decide)) ((rg_fp h2).at (i := 0) rfl) rfl ?_
    refine x_ldan rfl rfl rfl ((rg_board (W := B)).lt (i := 0) (show 0 < 6 by decide)) ?_
    refine x_getf rfl rfl ((rg_board (W := B)).lt (i := 0) (show 0 < 6 by decide)) ((rg_board (W := B)).at (i := 0) rfl) rfl ?_
    rcases ite_some hr with ⟨h5, hr⟩ | ⟨h5, hr⟩
    · refine x_ct rfl rfl (decide_eq_true h5) ?_
      refine x_fg (Lq.n (Lq.n Lq.nil)) ?_
      exact j_37_0_j34 hd hr kr
    · refine x_cf rfl rfl (decide_eq_false h5) ?_
      refine x_ldan rfl rfl rfl ((rg_fp h2).lt (i := 0) (show 0 < 6 by decide)) ?_
      refine x_getf rfl rfl ((rg_fp h2).lt (i := 0) (show 0 < 6 by decide)) ((rg_fp h2).at (i := 0) rfl) rfl ?_
      refine x_ldan rfl rfl rfl ((rg_board (W := B)).lt (i := 0) (show 0 < 6 by decide)) ?_
      refine x_getf rfl rfl ((rg_board (W := B)).lt (i := 0) (show 0 < 6 by decide)) ((rg_board (W := B)).at (i := 0) rfl) rfl ?_
      refine x_b 1 (S2 := (27, [some (.ref x0), some (.ref 1)], [.int (lg_cmp D1.edges B.board.edges)], (mk B), B.kc, B.kn)) rfl ?_
      rcases ite_some hr with ⟨h6, hr⟩ | ⟨h6, hr⟩
      · refine x_zt rfl rfl (decide_eq_true h6) ?_
        refine x_fg (Lq.n (Lq.n Lq.nil)) ?_
        exact j_37_0_j34 hd hr kr
      · refine x_zf rfl rfl (decide_eq_false h6) ?_
        refine x_b 2 (S2 := (35, [some (.ref x0), some (.ref 1)], [.int 1], (mk B), B.kc, B.kn)) rfl ?_
        refine x_fg (Lq.n (Lq.n Lq.nil)) ?_
        exact j_37_0_j35 hd hr kr
theorem m_37 {scr : ASc} {B : Wd} {x0 : Nat} {o : Int32} (hr : F_37 B x0 = some o) : RnW scr 2 37 [.ref x0, .ref 1] B (.inl (some (.int o))) B :=
  x_methW (M := am_M37) rfl (show 2 ≤ 2 by decide) (f_37 (Nat.le_refl _) hr rfl)
abbrev P_38_46 (x0 : Nat) (s : Int32 × Int32 × Wd) : ASt := (46, [some (.ref x0), some (.ref 1), some (.int s.1), some (.int s.2.1), none], [], (mk s.2.2), Wd.kc s.2.2, Wd.kn s.2.2)
abbrev PX_38_46 (x0 : Nat) (s : Wd) : ASt := (102, [none, none, none, none, none], [], (mk s), Wd.kc s, Wd.kn s)
def G_38_46 (x0 : Nat) (s : Int32 × Int32 × Wd) : Option ((Int32 × Int32 × Wd) ⊕ (Wd)) := 
  match s with
  | (x2, x3, B) =>
    if x3 < 0 then
      some (.inr B)
    else
      (B.fp x0).bind fun D38 =>
      (F_15 B.board D38.target x3).bind fun v41 =>
      (ix x3 6).bind fun i42 =>
      (some (D38.w_limits (upd D38.limits i42 ((1 <<< (v41 &&& 31)) - 1)))).bind fun o44 =>
      (some (B.sfp x0 o44)).bind fun B46 =>
      (B46.fp x0).bind fun D48 =>
      (some (D48.w_shifts (upd D48.shifts i42 x2))).bind fun o50 =>
      (some (B46.sfp x0 o50)).bind fun B52 =>
      (B52.fp x0).bind fun D54 =>
      (F_9 B52.board x3).bind fun v57 =>
      (some (D54.w_near (upd D54.near i42 v57))).bind fun o58 =>
      (some (B52.sfp x0 o58)).bind fun B60 =>
      some (.inl ((x2 + v41), (x3 + (-1)), B60))
theorem g_38_46 {d : Nat} (hd : 3 ≤ d) {scr : ASc} {res : ARe} {x0 : Nat} {s : Int32 × Int32 × Wd} {o : (Int32 × Int32 × Wd) ⊕ (Wd)} (hr : G_38_46 x0 s = some o) (ka : ∀ s, o = .inl s → Ex d am_M38 scr (P_38_46 x0 s) res) (kx : ∀ s, o = .inr s → Ex d am_M38 scr (PX_38_46 x0 s) res) : Ex d am_M38 scr (P_38_46 x0 s) res := by
  obtain ⟨x2, x3, B⟩ := s
  delta G_38_46 at hr
  show Ex d am_M38 scr (46, [some (.ref x0), some (.ref 1), some (.int x2), some (.int x3), none], [], (mk B), B.kc, B.kn) res
  refine x_b 1 (S2 := (47, [some (.ref x0), some (.ref 1), some (.int x2), some (.int x3), none], [.int x3], (mk B), B.kc, B.kn)) rfl ?_
  rcases ite_some hr with ⟨h37, hr⟩ | ⟨h37, hr⟩
  · refine x_zt rfl rfl (decide_eq_true h37) ?_
    refine x_fg (Lq.n (Lq.n (Lq.n (Lq.n (Lq.s Lq.nil))))) ?_
    exact kx B (Option.some.inj hr).symm
  · refine x_zf rfl rfl (decide_eq_false h37) ?_
    refine x_ldan rfl rfl rfl ((rg_board (W := B)).lt (i := 0) (show 0 < 6 by decide)) ?_
    obtain ⟨D38, h39, hr⟩ := bd_some hr
    refine x_ldan rfl rfl rfl ((rg_fp h39).lt (i := 0) (show 0 < 6 by decide)) ?_
    refine x_getf rfl rfl ((rg_fp h39).lt (i := 0) (show 0 < 6 by decide)) ((rg_fp h39).at (i := 0) rfl) rfl ?_
    refine x_b 1 (S2 := (56, [some (.ref x0), some (.ref 1), some (.int x2), some (.int x3), none], [.int x3, .int D38.target, .ref 1], (mk B), B.kc, B.kn)) rfl ?_
    obtain ⟨v41, h40, hr⟩ := bd_some hr
    refine x_cW (RnW.of0 (m_15 (rg_board (W := B)) h40) ⟨rfl, rfl⟩) rfl rfl rfl rfl (am_recv_v ((rg_board (W := B)).lt (i := 0) (show 0 < 6 by decide)) ((rg_board (W := B)).at (i := 0) rfl) rfl) (by omega) ?_
    refine x_b 1 (S2 := (61, [some (.ref x0), some (.ref 1), some (.int x2), some (.int x3), some (.int v41)], [], (mk B), B.kc, B.kn)) rfl ?_
    refine x_ldan rfl rfl rfl ((rg_fp h39).lt (i := 0) (show 0 < 6 by decide)) ?_
    refine x_getf rfl rfl ((rg_fp h39).lt (i := 0) (show 0 < 6 by decide)) ((rg_fp h39).at (i := 0) rfl) rfl ?_
    refine x_b 6 (S2 := (72, [some (.ref x0), some (.ref 1), some (.int x2), some (.int x3), some (.int v41)], [.int ((1 <<< (v41 &&& 31)) - 1), .int x3, .ref (x0 + 2)], (mk B), B.kc, B.kn)) rfl ?_
    obtain ⟨i42, h43, hr⟩ := bd_some hr
    obtain ⟨o44, h45, hr⟩ := bd_some hr
    obtain ⟨B46, h47, hr⟩ := bd_some hr
    refine x_iast (H := (mk B46)) rfl rfl ((rg_fp h39).lt (i := 2) (show 2 < 6 by decide)) ((rg_fp h39).at (i := 2) rfl) h43 (ws_fp (i := 2) h39 (FP.s_limits h45) h47 (by decide)) ?_
    refine x_kk (kk_fp h47) ?_
    obtain ⟨D48, h49, hr⟩ := bd_some hr
    refine x_ldan rfl rfl rfl ((rg_fp h49).lt (i := 0) (show 0 < 6 by decide)) ?_
    refine x_getf rfl rfl ((rg_fp h49).lt (i := 0) (show 0 < 6 by decide)) ((rg_fp h49).at (i := 0) rfl) rfl ?_
    refine x_b 2 (S2 := (79, [some (.ref x0), some (.ref 1), some (.int x2), some (.int x3), some (.int v41)], [.int x2, .int x3, .ref (x0 + 3)], (mk B46), B46.kc, B46.kn)) rfl ?_
    obtain ⟨o50, h51, hr⟩ := bd_some hr
    obtain ⟨B52, h53, hr⟩ := bd_some hr
    refine x_iast (H := (mk B52)) rfl rfl ((rg_fp h49).lt (i := 3) (show 3 < 6 by decide)) ((rg_fp h49).at (i := 3) rfl) h43 (ws_fp (i := 3) h49 (FP.s_shifts h51) h53 (by decide)) ?_
    refine x_kk (kk_fp h53) ?_
    obtain ⟨D54, h55, hr⟩ := bd_some hr
    refine x_ldan rfl rfl rfl ((rg_fp h55).lt (i := 0) (show 0 < 6 by decide)) ?_
    refine x_getf rfl rfl ((rg_fp h55).lt (i := 0) (show 0 < 6 by decide)) ((rg_fp h55).at (i := 0) rfl) rfl ?_
    refine x_b 1 (S2 := (85, [some (.ref x0), some (.ref 1), some (.int x2), some (.int x3), some (.int v41)], [.int x3, .ref (x0 + 4)], (mk B52), B52.kc, B52.kn)) rfl ?_
    refine x_ldan rfl rfl rfl ((rg_board (W := B52)).lt (i := 0) (show 0 < 6 by decide)) ?_
    refine x_b 1 (S2 := (87, [some (.ref x0), some (.ref 1), some (.int x2), some (.int x3), some (.int v41)], [.int x3, .ref 1, .int x3, .ref (x0 + 4)], (mk B52), B52.kc, B52.kn)) rfl ?_
    obtain ⟨v57, h56, hr⟩ := bd_some hr
    refine x_cW (RnW.of0 (m_9 (rg_board (W := B52)) h56) ⟨rfl, rfl⟩) rfl rfl rfl rfl (am_recv_v ((rg_board (W := B52)).lt (i := 0) (show 0 < 6 by decide)) ((rg_board (W := B52)).at (i := 0) rfl) rfl) (by omega) ?_
    obtain ⟨o58, h59, hr⟩ := bd_some hr
    obtain ⟨B60, h61, hr⟩ := bd_some hr
    refine x_iast (H := (mk B60)) rfl rfl ((rg_fp h55).lt (i := 4) (show 4 < 6 by decide)) ((rg_fp h55).at (i := 4) rfl) h43 (ws_fp (i := 4) h55 (FP.s_near h59) h61 (by decide)) ?_
    refine x_kk (kk_fp h61) ?_
    refine x_b 6 (S2 := (46, [some (.ref x0), some (.ref 1), some (.int (x2 + v41)), some (.int (x3 + (-1))), some (.int v41)], [], (mk B60), B60.kc, B60.kn)) rfl ?_
    refine x_fg (Lq.s (Lq.s (Lq.s (Lq.s (Lq.n Lq.nil))))) ?_
    exact ka ((x2 + v41), (x3 + (-1)), B60) (Option.some.inj hr).symm
/-- PebbleProofs$FailingPiles.clear(LPebbleProofs$Board;)V -/
def F_38 (B : Wd) (x0 : Nat) : Option (Wd) :=
  (B.fp x0).bind fun D1 =>
  (some (D1.w_isMade 1)).bind fun o3 =>
  (some (B.sfp x0 o3)).bind fun B5 =>
  (B5.fp x0).bind fun D7 =>
  (some (D7.w_vertices B5.board.vertices)).bind fun o9 =>
  (some (B5.sfp x0 o9)).bind fun B11 =>
  (B11.fp x0).bind fun D13 =>
  (some (D13.w_edges B11.board.edges)).bind fun o15 =>
  (some (B11.sfp x0 o15)).bind fun B17 =>
  (B17.fp x0).bind fun D19 =>
  (F_261 1024 D19.marks 0).bind fun o22 =>
  (some (D19.w_marks o22)).bind fun o23 =>
  (some (B17.sfp x0 o23)).bind fun B25 =>
  (B25.fp x0).bind fun D27 =>
  (F_261 100 D27.howMany 0).bind fun o30 =>
  (some (D27.w_howMany o30)).bind fun o31 =>
  (some (B25.sfp x0 o31)).bind fun B33 =>
  (B33.fp x0).bind fun D35 =>
  (lw (G_38_46 x0) 200000 (0, (D35.vertices - 1), B33)).bind fun B63 =>
  some B63
theorem f_38 {d : Nat} (hd : 3 ≤ d) {scr : ASc} {res : ARe} {B : Wd} {x0 : Nat} {o : Wd} (hr : F_38 B x0 = some o) (kr : res = (.inl none, mk o, Wd.kc o, Wd.kn o)) : Ex d am_M38 scr (0, [some (.ref x0), some (.ref 1), none, none, none], [], (mk B), B.kc, B.kn) res := by
  delta F_38 at hr
  obtain ⟨D1, h2, hr⟩ := bd_some hr
  refine x_ldan rfl rfl rfl ((rg_fp h2).lt (i := 0) (show 0 < 6 by decide)) ?_
  refine x_b 1 (S2 := (2, [some (.ref x0), some (.ref 1), none, none, none], [.int 1, .ref x0], (mk B), B.kc, B.kn)) rfl ?_
  obtain ⟨o3, h4, hr⟩ := bd_some hr
  obtain ⟨B5, h6, hr⟩ := bd_some hr
  refine x_putf (H := (mk B5)) rfl rfl ((rg_fp h2).lt (i := 0) (show 0 < 6 by decide)) ((rg_fp h2).at (i := 0) rfl) ⟨(show 1 < 12 by decide), rfl, rfl, nofun⟩ (ws_fp (i := 0) h2 (FP.s_isMade rfl h4) h6 (by decide)) ?_
  refine x_kk (kk_fp h6) ?_
  obtain ⟨D7, h8, hr⟩ := bd_some hr
  refine x_ldan rfl rfl rfl ((rg_fp h8).lt (i := 0) (show 0 < 6 by decide)) ?_
  refine x_ldan rfl rfl rfl ((rg_board (W := B5)).lt (i := 0) (show 0 < 6 by decide)) ?_
  refine x_getf rfl rfl ((rg_board (W := B5)).lt (i := 0) (show 0 < 6 by decide)) ((rg_board (W := B5)).at (i := 0) rfl) rfl ?_
  obtain ⟨o9, h10, hr⟩ := bd_some hr
  obtain ⟨B11, h12, hr⟩ := bd_some hr
  refine x_putf (H := (mk B11)) rfl rfl ((rg_fp h8).lt (i := 0) (show 0 < 6 by decide)) ((rg_fp h8).at (i := 0) rfl) ⟨(show 2 < 12 by decide), rfl, rfl, nofun⟩ (ws_fp (i := 0) h8 (FP.s_vertices rfl h10) h12 (by decide)) ?_
  refine x_kk (kk_fp h12) ?_
  obtain ⟨D13, h14, hr⟩ := bd_some hr
  refine x_ldan rfl rfl rfl ((rg_fp h14).lt (i := 0) (show 0 < 6 by decide)) ?_
  refine x_ldan rfl rfl rfl ((rg_board (W := B11)).lt (i := 0) (show 0 < 6 by decide)) ?_
  refine x_getf rfl rfl ((rg_board (W := B11)).lt (i := 0) (show 0 < 6 by decide)) ((rg_board (W := B11)).at (i := 0) rfl) rfl ?_
  obtain ⟨o15, h16, hr⟩ := bd_some hr
  obtain ⟨B17, h18, hr⟩ := bd_some hr
  refine x_putf (H := (mk B17)) rfl rfl ((rg_fp h14).lt (i := 0) (show 0 < 6 by decide)) ((rg_fp h14).at (i := 0) rfl) ⟨(show 3 < 12 by decide), rfl, rfl, nofun⟩ (ws_fp (i := 0) h14 (FP.s_edges rfl h16) h18 (by decide)) ?_
  refine x_kk (kk_fp h18) ?_
  obtain ⟨D19, h20, hr⟩ := bd_some hr
  refine x_ldan rfl rfl rfl ((rg_fp h20).lt (i := 0) (show 0 < 6 by decide)) ?_
  refine x_getf rfl rfl ((rg_fp h20).lt (i := 0) (show 0 < 6 by decide)) ((rg_fp h20).at (i := 0) rfl) rfl ?_
  refine x_b 1 (S2 := (26, [some (.ref x0), some (.ref 1), none, none, none], [.int 0, .ref (x0 + 5)], (mk B17), B17.kc, B17.kn)) rfl ?_
  obtain ⟨o22, h21, hr⟩ := bd_some hr
  obtain ⟨o23, h24, hr⟩ := bd_some hr
  obtain ⟨B25, h26, hr⟩ := bd_some hr
  refine x_cW (RnW.of0 (ar_call (H' := (mk B25)) (fun hb hh => m_261 hb hh h21) ((rg_fp h20).lt (i := 5) (show 5 < 6 by decide)) ((rg_fp h20).at (i := 5) rfl) (ws_fp (i := 5) h20 (FP.s_marks h24) h26 (by decide))) (kk_fp h26)) rfl rfl rfl rfl rfl (by omega) ?_
  obtain ⟨D27, h28, hr⟩ := bd_some hr
  refine x_ldan rfl rfl rfl ((rg_fp h28).lt (i := 0) (show 0 < 6 by decide)) ?_
  refine x_getf rfl rfl ((rg_fp h28).lt (i := 0) (show 0 < 6 by decide)) ((rg_fp h28).at (i := 0) rfl) rfl ?_
  refine x_b 1 (S2 := (34, [some (.ref x0), some (.ref 1), none, none, none], [.int 0, .ref (x0 + 1)], (mk B25), B25.kc, B25.kn)) rfl ?_
  obtain ⟨o30, h29, hr⟩ := bd_some hr
  obtain ⟨o31, h32, hr⟩ := bd_some hr
  obtain ⟨B33, h34, hr⟩ := bd_some hr
  refine x_cW (RnW.of0 (ar_call (H' := (mk B33)) (fun hb hh => m_261 hb hh h29) ((rg_fp h28).lt (i := 1) (show 1 < 6 by decide)) ((rg_fp h28).at (i := 1) rfl) (ws_fp (i := 1) h28 (FP.s_howMany h32) h34 (by decide))) (kk_fp h34)) rfl rfl rfl rfl rfl (by omega) ?_
  refine x_b 2 (S2 := (39, [some (.ref x0), some (.ref 1), some (.int 0), none, none], [], (mk B33), B33.kc, B33.kn)) rfl ?_
  obtain ⟨D35, h36, hr⟩ := bd_some hr
  refine x_ldan rfl rfl rfl ((rg_fp h36).lt (i := 0) (show 0 < 6 by decide)) ?_
  refine x_getf rfl rfl ((rg_fp h36).lt (i := 0) (show 0 < 6 by decide)) ((rg_fp h36).at (i := 0) rfl) rfl ?_
  refine x_b 3 (S2 := (46, [some (.ref x0), some (.ref 1), some (.int 0), some (.int (D35.vertices - 1)), none], [], (mk B33), B33.kc, B33.kn)) rfl ?_
  refine x_fg (Lq.s (Lq.s (Lq.s (Lq.s (Lq.s Lq.nil))))) ?_
  obtain ⟨B63, h62, hr⟩ := bd_some hr
  refine x_lw (P := P_38_46 x0) (Q := fun x => Ex d am_M38 scr (PX_38_46 x0 x) res) (fun s o h1 ka kx => g_38_46 hd h1 ka kx) _ (0, (D35.vertices - 1), B33) _ h62 ?_
  show Ex d am_M38 scr (102, [none, none, none, none, none], [], (mk B63), B63.kc, B63.kn) res
  cases hr
  rw [kr]
  exact x_ret rfl rfl rfl
theorem m_38 {scr : ASc} {B : Wd} {x0 : Nat} {o : Wd} (hr : F_38 B x0 = some o) : RnW scr 4 38 [.ref x0, .ref 1] B (.inl none) o :=
  x_methW (M := am_M38) rfl (show 2 ≤ 5 by decide) (f_38 (Nat.le_refl _) hr rfl)
abbrev P_43_4 (B : Wd) (x0 : Nat) (s : Int32 × Int32) : ASt := (4, [some (.ref x0), some (.ref (1 + 1)), some (.int s.1), some (.int s.2)], [], (mk B), Wd.kc B, Wd.kn B)
abbrev PX_43_4 (B : Wd) (x0 : Nat) (s : Int32) : ASt := (45, [some (.ref x0), none, some (.int s), none], [], (mk B), Wd.kc B, Wd.kn B)
def G_43_4 (B : Wd) (x0 : Nat) (s : Int32 × Int32) : Option ((Int32 × Int32) ⊕ (Int32) ⊕ (Int32)) := 
  match s with
  | (x2, x3) =>
    (B.fp x0).bind fun D1 =>
    if D1.vertices ≤ x3 then
      some (.inr (.inl x2))
    else
      (ix x3 6).bind fun i4 =>
      if (B.board.pile i4) ≤ (D1.limits i4) then
        some (.inl ((x2 ||| ((B.board.pile i4) <<< ((D1.shifts i4) &&& 31))), (x3 + 1)))
      else
        some (.inr (.inr 0))
theorem g_43_4 {d : Nat} (hd : 2 ≤ d) {scr : ASc} {res : ARe} {B : Wd} {x0 : Nat} {s : Int32 × Int32} {o : (Int32 × Int32) ⊕ (Int32) ⊕ (Int32)} (hr : G_43_4 B x0 s = some o) (ka : ∀ s, o = .inl s → Ex d am_M43 scr (P_43_4 B x0 s) res) (kx : ∀ s, o = .inr (.inl s) → Ex d am_M43 scr (PX_43_4 B x0 s) res) (kr : ∀ r, o = .inr (.inr r) → res = (.inl (some (.int r)), mk B, Wd.kc B, Wd.kn B)) : Ex d am_M43 scr (P_43_4 B x0 s) res := by
  obtain ⟨x2, x3⟩ := s
  delta G_43_4 at hr
  show Ex d am_M43 scr (4, [some (.ref x0), some (.ref (1 + 1)), some (.int x2), some (.int x3)], [], (mk B), B.kc, B.kn) res
  refine x_b 1 (S2 := (5, [some (.ref x0), some (.ref (1 + 1)), some (.int x2), some (.int x3)], [.int x3], (mk B), B.kc, B.kn)) rfl ?_
  obtain ⟨D1, h2, hr⟩ := bd_some hr
  refine x_ldan rfl rfl rfl ((rg_fp h2).lt (i := 0) (show 0 < 6 by decide)) ?_
  refine x_getf rfl rfl ((rg_fp h2).lt (i := 0) (show 0 < 6 by decide)) ((rg_fp h2).at (i := 0) rfl) rfl ?_
  rcases ite_some hr with ⟨h3, hr⟩ | ⟨h3, hr⟩
  · refine x_ct rfl rfl (decide_eq_true h3) ?_
    refine x_fg (Lq.s (Lq.n (Lq.s (Lq.n Lq.nil)))) ?_
    exact kx x2 (Option.some.inj hr).symm
  · refine x_cf rfl rfl (decide_eq_false h3) ?_
    refine x_ldan rfl rfl rfl ((rg_board (W := B)).lt (i := 1) (show 1 < 6 by decide)) ?_
    refine x_b 1 (S2 := (14, [some (.ref x0), some (.ref (1 + 1)), some (.int x2), some (.int x3)], [.int x3, .ref (1 + 1)], (mk B), B.kc, B.kn)) rfl ?_
    obtain ⟨i4, h5, hr⟩ := bd_some hr
    refine x_iald rfl rfl ((rg_board (W := B)).lt (i := 1) (show 1 < 6 by decide)) ((rg_board (W := B)).at (i := 1) rfl) h5 ?_
    refine x_ldan rfl rfl rfl ((rg_fp h2).lt (i := 0) (show 0 < 6 by decide)) ?_
    refine x_getf rfl rfl ((rg_fp h2).lt (i := 0) (show 0 < 6 by decide)) ((rg_fp h2).at (i := 0) rfl) rfl ?_
    refine x_b 1 (S2 := (20, [some (.ref x0), some (.ref (1 + 1)), some (.int x2), some (.int x3)], [.int x3, .ref (x0 + 2), .int (B.board.pile i4)], (mk B), B.kc, B.kn)) rfl ?_
    refine x_iald rfl rfl ((rg_fp h2).lt (i := 2) (show 2 < 6 by decide)) ((rg_fp h2).at (i := 2) rfl) h5 ?_
    rcases ite_some hr with ⟨h6, hr⟩ | ⟨h6, hr⟩
    · refine x_ct rfl rfl (decide_eq_true h6) ?_
      refine x_b 1 (S2 := (27, [some (.ref x0), some (.ref (1 + 1)), some (.int x2), some (.int x3)], [.int x2], (mk B), B.kc, B.kn)) rfl ?_
      refine x_ldan rfl rfl rfl ((rg_board (W := B)).lt (i := 1) (show 1 < 6 by decide)) ?_
      refine x_b 1 (S2 := (29, [some (.ref x0), some (.ref (1 + 1)), some (.int x2), some (.int x3)], [.int x3, .ref (1 + 1), .int x2], (mk B), B.kc, B.kn)) rfl ?_
      refine x_iald rfl rfl ((rg_board (W := B)).lt (i := 1) (show 1 < 6 by decide)) ((rg_board (W := B)).at (i := 1) rfl) h5 ?_
      refine x_ldan rfl rfl rfl ((rg_fp h2).lt (i := 0) (show 0 < 6 by decide)) ?_
      refine x_getf rfl rfl ((rg_fp h2).lt (i := 0) (show 0 < 6 by decide)) ((rg_fp h2).at (i := 0) rfl) rfl ?_
      refine x_b 1 (S2 := (35, [some (.ref x0), some (.ref (1 + 1)), some (.int x2), some (.int x3)], [.int x3, .ref (x0 + 3), .int (B.board.pile i4), .int x2], (mk B), B.kc, B.kn)) rfl ?_
      refine x_iald rfl rfl ((rg_fp h2).lt (i := 3) (show 3 < 6 by decide)) ((rg_fp h2).at (i := 3) rfl) h5 ?_
      refine x_b 5 (S2 := (4, [some (.ref x0), some (.ref (1 + 1)), some (.int (x2 ||| ((B.board.pile i4) <<< ((D1.shifts i4) &&& 31)))), some (.int (x3 + 1))], [], (mk B), B.kc, B.kn)) rfl ?_
      refine x_fg (Lq.s (Lq.s (Lq.s (Lq.s Lq.nil)))) ?_
      exact ka ((x2 ||| ((B.board.pile i4) <<< ((D1.shifts i4) &&& 31))), (x3 + 1)) (Option.some.inj hr).symm
    · refine x_cf rfl rfl (decide_eq_false h6) ?_
      refine x_b 1 (S2 := (25, [some (.ref x0), some (.ref (1 + 1)), some (.int x2), some (.int x3)], [.int 0], (mk B), B.kc, B.kn)) rfl ?_
      rw [kr _ (Option.some.inj hr).symm]
      exact x_ret rfl rfl (am_ret_z (by decide))
/-- PebbleProofs$FailingPiles.holds([I)Z -/
def F_43 (B : Wd) (x0 : Nat) : Option (Int32) :=
  (lw (G_43_4 B x0) 200000 (0, 0)).bind fun r =>
    match r with
    | .inr r16 => some r16
    | .inl v9 =>
      (B.fp x0).bind fun D11 =>
      (F_40 D11 v9).bind fun v14 =>
      if v14 = 0 ∨ v14 = 1 then some v14 else none
theorem f_43 {d : Nat} (hd : 2 ≤ d) {scr : ASc} {res : ARe} {B : Wd} {x0 : Nat} {o : Int32} (hr : F_43 B x0 = some o) (kr : res = (.inl (some (.int o)), mk B, Wd.kc B, Wd.kn B)) : Ex d am_M43 scr (0, [some (.ref x0), some (.ref (1 + 1)), none, none], [], (mk B), B.kc, B.kn) res := by
  delta F_43 at hr
  refine x_b 4 (S2 := (4, [some (.ref x0), some (.ref (1 + 1)), some (.int 0), some (.int 0)], [], (mk B), B.kc, B.kn)) rfl ?_
  refine x_fg (Lq.s (Lq.s (Lq.s (Lq.s Lq.nil)))) ?_
  obtain ⟨o10, h8, hr⟩ := bd_some hr
  refine x_lw (P := P_43_4 B x0) (Q := fun x => match x with | .inl e => Ex d am_M43 scr (PX_43_4 B x0 e) res | .inr r => res = (.inl (some (.int r)), mk B, Wd.kc B, Wd.kn B)) (fun s o h1 ka kx => g_43_4 hd h1 ka (fun e he => kx (.inl e) he) (fun r he => kx (.inr r) he)) _ (0, 0) _ h8 ?_
  rcases o10 with v9 | r16
  · show Ex d am_M43 scr (45, [some (.ref x0), none, some (.int v9), none], [], (mk B), B.kc, B.kn) res
    obtain ⟨D11, h12, hr⟩ := bd_some hr
    refine x_ldan rfl rfl rfl ((rg_fp h12).lt (i := 0) (show 0 < 6 by decide)) ?_
    refine x_b 1 (S2 := (47, [some (.ref x0), none, some (.int v9), none], [.int v9, .ref x0], (mk B), B.kc, B.kn)) rfl ?_
    obtain ⟨v14, h13, hr⟩ := bd_some hr
    refine x_cW (RnW.of0 (m_40 (rg_fp h12) h13) ⟨rfl, rfl⟩) rfl rfl rfl rfl (am_recv_v ((rg_fp h12).lt (i := 0) (show 0 < 6 by decide)) ((rg_fp h12).at (i := 0) rfl) rfl) (by omega) ?_
    obtain ⟨h15, hr⟩ := itn_some hr
    cases hr
    rw [kr]
    exact x_ret rfl rfl (am_ret_z h15)
  · cases hr; exact kr
theorem m_43 {scr : ASc} {B : Wd} {x0 : Nat} {o : Int32} (hr : F_43 B x0 = some o) : RnW scr 3 43 [.ref x0, .ref (1 + 1)] B (.inl (some (.int o))) B :=
  x_methW (M := am_M43) rfl (show 2 ≤ 4 by decide) (f_43 (Nat.le_refl _) hr rfl)
abbrev P_45_6 (x0 : Nat) (x3 : Int32) (s : Int32 × Int32 × Wd) : ASt := (6, [some (.ref x0), some (.ref 28), none, some (.int x3), some (.int s.1), some (.int s.2.1), none, none, none], [], (mk s.2.2), Wd.kc s.2.2, Wd.kn s.2.2)
abbrev PX_45_6 (x0 : Nat) (x3 : Int32) (s : Int32 × Wd) : ASt := (113, [none, none, none, none, some (.int s.1), none, none, none, none], [], (mk s.2), Wd.kc s.2, Wd.kn s.2)
abbrev P_45_26 (x0 : Nat) (x3 : Int32) (x5 : Int32) (x6 : Int32) (s : Int32 × Int32 × Wd) : ASt := (26, [some (.ref x0), some (.ref 28), none, some (.int x3), some (.int s.1), some (.int x5), some (.int x6), some (.int s.2.1), none], [], (mk s.2.2), Wd.kc s.2.2, Wd.kn s.2.2)
abbrev PX_45_26 (x0 : Nat) (x3 : Int32) (x5 : Int32) (x6 : Int32) (s : Int32 × Wd) : ASt := (107, [some (.ref x0), some (.ref 28), none, some (.int x3), some (.int s.1), some (.int x5), none, none, none], [], (mk s.2), Wd.kc s.2, Wd.kn s.2)
def J_45_26_j87 (B : Wd) (x0 : Nat) (x3 : Int32) (x4 : Int32) (x5 : Int32) (x6 : Int32) (x7 : Int32) : Option ((Int32 × Int32 × Wd) ⊕ (Int32 × Wd)) :=
  (B.fp x0).bind fun D14 =>
  (F_41 D14 x6 x7).bind fun v17 =>
  if v17 ≤ 0 then
    some (.inl (x4, (x7 + (-1)), B))
  else
    some (.inr (x4, B))
theorem j_45_26_j87 {d : Nat} (hd : 4 ≤ d) {scr : ASc} {res : ARe} {B : Wd} {x0 : Nat} {x3 : Int32} {x4 : Int32} {x5 : Int32} {x6 : Int32} {x7 : Int32} {o : (Int32 × Int32 × Wd) ⊕ (Int32 × Wd)} (hr : J_45_26_j87 B x0 x3 x4 x5 x6 x7 = some o) (ka : ∀ s, o = .inl s → Ex d am_M45 scr (P_45_26 x0 x3 x5 x6 s) res) (kx : ∀ s, o = .inr s → Ex d am_M45 scr (PX_45_26 x0 x3 x5 x6 s) res) : Ex d am_M45 scr (87, [some (.ref x0), some (.ref 28), none, some (.int x3), some (.int x4), some (.int x5), some (.int x6), some (.int x7), none], [], (mk B), B.kc, B.kn) res := by
  delta J_45_26_j87 at hr
  obtain ⟨D14, h15, hr⟩ := bd_some hr
  refine x_ldan rfl rfl rfl ((rg_fp h15).lt (i := 0) (show 0 < 6 by decide)) ?_
  refine x_b 2 (S2 := (92, [some (.ref x0), some (.ref 28), none, some (.int x3), some (.int x4), some (.int x5), some (.int x6), some (.int x7), none], [.int x7, .int x6, .ref x0], (mk B), B.kc, B.kn)) rfl ?_
  obtain ⟨v17, h16, hr⟩ := bd_some hr
  refine x_cW (RnW.of0 (m_41 (rg_fp h15) h16) ⟨rfl, rfl⟩) rfl rfl rfl rfl (am_recv_v ((rg_fp h15).lt (i := 0) (show 0 < 6 by decide)) ((rg_fp h15).at (i := 0) rfl) rfl) (by omega) ?_
  rcases ite_some hr with ⟨h18, hr⟩ | ⟨h18, hr⟩
  · refine x_zt rfl rfl (decide_eq_true h18) ?_
    refine x_b 2 (S2 := (26, [some (.ref x0), some (.ref 28), none, some (.int x3), some (.int x4), some (.int x5), some (.int x6), some (.int (x7 + (-1))), none], [], (mk B), B.kc, B.kn)) rfl ?_
    refine x_fg (Lq.s (Lq.s (Lq.s (Lq.s (Lq.s (Lq.s (Lq.s (Lq.s (Lq.s Lq.nil))))))))) ?_
    exact ka (x4, (x7 + (-1)), B) (Option.some.inj hr).symm
  · refine x_zf rfl rfl (decide_eq_false h18) ?_
    refine x_b 1 (S2 := (107, [some (.ref x0), some (.ref 28), none, some (.int x3), some (.int x4), some (.int x5), some (.int x6), some (.int x7), none], [], (mk B), B.kc, B.kn)) rfl ?_
    refine x_fg (Lq.s (Lq.s (Lq.s (Lq.s (Lq.s (Lq.s (Lq.n (Lq.n (Lq.s Lq.nil))))))))) ?_
    exact kx (x4, B) (Option.some.inj hr).symm
def G_45_26 (x0 : Nat) (x3 : Int32) (x5 : Int32) (x6 : Int32) (s : Int32 × Int32 × Wd) : Option ((Int32 × Int32 × Wd) ⊕ (Int32 × Wd)) := 
  match s with
  | (x4, x7, B) =>
    if x7 < 0 then
      some (.inr (x4, B))
    else
      (B.fp x0).bind fun D7 =>
      (ix x7 6).bind fun i9 =>
      (F_42 D7 x6 x7).bind fun v12 =>
      if v12 = 0 then
        J_45_26_j87 B x0 x3 x4 x5 x6 x7
      else
        if (Int32.ofNat 2048) ≤ x4 then
          J_45_26_j87 B x0 x3 x4 x5 x6 x7
        else
          (F_46 D7 (x6 + (1 <<< ((D7.shifts i9) &&& 31)))).bind fun v21 =>
          if v21 = 0 then
            J_45_26_j87 B x0 x3 x4 x5 x6 x7
          else
            (F_39 D7 (x6 + (1 <<< ((D7.shifts i9) &&& 31)))).bind fun o24 =>
            (some (B.sfp x0 o24)).bind fun B25 =>
            (ix x4 2048).bind fun i27 =>
            (some (upd B25.row i27 (x6 + (1 <<< ((D7.shifts i9) &&& 31))))).bind fun o29 =>
            (some (B25.w_row o29)).bind fun B31 =>
            J_45_26_j87 B31 x0 x3 (x4 + 1) x5 x6 x7
theorem g_45_26 {d : Nat} (hd : 4 ≤ d) {scr : ASc} {res : ARe} {x0 : Nat} {x3 : Int32} {x5 : Int32} {x6 : Int32} {s : Int32 × Int32 × Wd} {o : (Int32 × Int32 × Wd) ⊕ (Int32 × Wd)} (hr : G_45_26 x0 x3 x5 x6 s = some o) (ka : ∀ s, o = .inl s → Ex d am_M45 scr (P_45_26 x0 x3 x5 x6 s) res) (kx : ∀ s, o = .inr s → Ex d am_M45 scr (PX_45_26 x0 x3 x5 x6 s) res) : Ex d am_M45 scr (P_45_26 x0 x3 x5 x6 s) res := by
  obtain ⟨x4, x7, B⟩ := s
  delta G_45_26 at hr
  show Ex d am_M45 scr (26, [some (.ref x0), some (.ref 28), none, some (.int x3), some (.int x4), some (.int x5), some (.int x6), some (.int x7), none], [], (mk B), B.kc, B.kn) res
  refine x_b 1 (S2 := (28, [some (.ref x0), some (.ref 28), none, some (.int x3), some (.int x4), some (.int x5), some (.int x6), some (.int x7), none], [.int x7], (mk B), B.kc, B.kn)) rfl ?_
  rcases ite_some hr with ⟨h6, hr⟩ | ⟨h6, hr⟩
  · refine x_zt rfl rfl (decide_eq_true h6) ?_
    refine x_fg (Lq.s (Lq.s (Lq.s (Lq.s (Lq.s (Lq.s (Lq.n (Lq.n (Lq.s Lq.nil))))))))) ?_
    exact kx (x4, B) (Option.some.inj hr).symm
  · refine x_zf rfl rfl (decide_eq_false h6) ?_
    refine x_b 2 (S2 := (34, [some (.ref x0), some (.ref 28), none, some (.int x3), some (.int x4), some (.int x5), some (.int x6), some (.int x7), none], [.int 1, .int x6], (mk B), B.kc, B.kn)) rfl ?_
    obtain ⟨D7, h8, hr⟩ := bd_some hr
    refine x_ldan rfl rfl rfl ((rg_fp h8).lt (i := 0) (show 0 < 6 by decide)) ?_
    refine x_getf rfl rfl ((rg_fp h8).lt (i := 0) (show 0 < 6 by decide)) ((rg_fp h8).at (i := 0) rfl) rfl ?_
    refine x_b 1 (S2 := (40, [some (.ref x0), some (.ref 28), none, some (.int x3), some (.int x4), some (.int x5), some (.int x6), some (.int x7), none], [.int x7, .ref (x0 + 3), .int 1, .int x6], (mk B), B.kc, B.kn)) rfl ?_
    obtain ⟨i9, h10, hr⟩ := bd_some hr
    refine x_iald rfl rfl ((rg_fp h8).lt (i := 3) (show 3 < 6 by decide)) ((rg_fp h8).at (i := 3) rfl) h10 ?_
    refine x_b 3 (S2 := (45, [some (.ref x0), some (.ref 28), none, some (.int x3), some (.int x4), some (.int x5), some (.int x6), some (.int x7), some (.int (x6 + (1 <<< ((D7.shifts i9) &&& 31))))], [], (mk B), B.kc, B.kn)) rfl ?_
    refine x_ldan rfl rfl rfl ((rg_fp h8).lt (i := 0) (show 0 < 6 by decide)) ?_
    refine x_b 2 (S2 := (50, [some (.ref x0), some (.ref 28), none, some (.int x3), some (.int x4), some (.int x5), some (.int x6), some (.int x7), some (.int (x6 + (1 <<< ((D7.shifts i9) &&& 31))))], [.int x7, .int x6, .ref x0], (mk B), B.kc, B.kn)) rfl ?_
    obtain ⟨v12, h11, hr⟩ := bd_some hr
    refine x_cW (RnW.of0 (m_42 (rg_fp h8) h11) ⟨rfl, rfl⟩) rfl rfl rfl rfl (am_recv_v ((rg_fp h8).lt (i := 0) (show 0 < 6 by decide)) ((rg_fp h8).at (i := 0) rfl) rfl) (by omega) ?_
    rcases ite_some hr with ⟨h13, hr⟩ | ⟨h13, hr⟩
    · refine x_zt rfl rfl (decide_eq_true h13) ?_
      refine x_fg (Lq.s (Lq.s (Lq.s (Lq.s (Lq.s (Lq.s (Lq.s (Lq.s (Lq.n Lq.nil))))))))) ?_
      exact j_45_26_j87 hd hr ka kx
    · refine x_zf rfl rfl (decide_eq_false h13) ?_
      refine x_b 1 (S2 := (58, [some (.ref x0), some (.ref 28), none, some (.int x3), some (.int x4), some (.int x5), some (.int x6), some (.int x7), some (.int (x6 + (1 <<< ((D7.shifts i9) &&& 31))))], [.int x4], (mk B), B.kc, B.kn)) rfl ?_
      refine x_ldan rfl rfl rfl ((rg_row (W := B)).lt (i := 0) (show 0 < 1 by decide)) ?_
      refine x_alen rfl rfl ((rg_row (W := B)).lt (i := 0) (show 0 < 1 by decide)) ((rg_row (W := B)).at (i := 0) rfl) (by decide) ?_
      rcases ite_some hr with ⟨h19, hr⟩ | ⟨h19, hr⟩
      · refine x_ct rfl rfl (decide_eq_true h19) ?_
        refine x_fg (Lq.s (Lq.s (Lq.s (Lq.s (Lq.s (Lq.s (Lq.s (Lq.s (Lq.n Lq.nil))))))))) ?_
        exact j_45_26_j87 hd hr ka kx
      · refine x_cf rfl rfl (decide_eq_false h19) ?_
        refine x_ldan rfl rfl rfl ((rg_fp h8).lt (i := 0) (show 0 < 6 by decide)) ?_
        refine x_b 1 (S2 := (66, [some (.ref x0), some (.ref 28), none, some (.int x3), some (.int x4), some (.int x5), some (.int x6), some (.int x7), some (.int (x6 + (1 <<< ((D7.shifts i9) &&& 31))))], [.int (x6 + (1 <<< ((D7.shifts i9) &&& 31))), .ref x0], (mk B), B.kc, B.kn)) rfl ?_
        obtain ⟨v21, h20, hr⟩ := bd_some hr
        refine x_cW (RnW.of0 (m_46 (rg_fp h8) h20) ⟨rfl, rfl⟩) rfl rfl rfl rfl (am_recv_v ((rg_fp h8).lt (i := 0) (show 0 < 6 by decide)) ((rg_fp h8).at (i := 0) rfl) rfl) (by omega) ?_
        rcases ite_some hr with ⟨h22, hr⟩ | ⟨h22, hr⟩
        · refine x_zt rfl rfl (decide_eq_true h22) ?_
          refine x_fg (Lq.s (Lq.s (Lq.s (Lq.s (Lq.s (Lq.s (Lq.s (Lq.s (Lq.n Lq.nil))))))))) ?_
          exact j_45_26_j87 hd hr ka kx
        · refine x_zf rfl rfl (decide_eq_false h22) ?_
          refine x_ldan rfl rfl rfl ((rg_fp h8).lt (i := 0) (show 0 < 6 by decide)) ?_
          refine x_b 1 (S2 := (75, [some (.ref x0), some (.ref 28), none, some (.int x3), some (.int x4), some (.int x5), some (.int x6), some (.int x7), some (.int (x6 + (1 <<< ((D7.shifts i9) &&& 31))))], [.int (x6 + (1 <<< ((D7.shifts i9) &&& 31))), .ref x0], (mk B), B.kc, B.kn)) rfl ?_
          obtain ⟨o24, h23, hr⟩ := bd_some hr
          obtain ⟨B25, h26, hr⟩ := bd_some hr
          refine x_cW (wc_fp h8 (fun H hb hh hH => m_39 hb hh h23) h26) rfl rfl rfl rfl (am_recv_v ((rg_fp h8).lt (i := 0) (show 0 < 6 by decide)) ((rg_fp h8).at (i := 0) rfl) rfl) (by omega) ?_
          refine x_ldan rfl rfl rfl ((rg_row (W := B25)).lt (i := 0) (show 0 < 1 by decide)) ?_
          refine x_b 2 (S2 := (83, [some (.ref x0), some (.ref 28), none, some (.int x3), some (.int x4), some (.int x5), some (.int x6), some (.int x7), some (.int (x6 + (1 <<< ((D7.shifts i9) &&& 31))))], [.int (x6 + (1 <<< ((D7.shifts i9) &&& 31))), .int x4, .ref 28], (mk B25), B25.kc, B25.kn)) rfl ?_
          obtain ⟨i27, h28, hr⟩ := bd_some hr
          obtain ⟨o29, h30, hr⟩ := bd_some hr
          obtain ⟨B31, h32, hr⟩ := bd_some hr
          refine x_iast (H := (mk B31)) rfl rfl ((rg_row (W := B25)).lt (i := 0) (show 0 < 1 by decide)) ((rg_row (W := B25)).at (i := 0) rfl) h28 (ws_row (i := 0) (Ar.s_ h30) h32 (by decide)) ?_
          refine x_kk (kk_row h32) ?_
          refine x_b 1 (S2 := (87, [some (.ref x0), some (.ref 28), none, some (.int x3), some (.int (x4 + 1)), some (.int x5), some (.int x6), some (.int x7), some (.int (x6 + (1 <<< ((D7.shifts i9) &&& 31))))], [], (mk B31), B31.kc, B31.kn)) rfl ?_
          refine x_fg (Lq.s (Lq.s (Lq.s (Lq.s (Lq.s (Lq.s (Lq.s (Lq.s (Lq.n Lq.nil))))))))) ?_
          exact j_45_26_j87 hd hr ka kx
def J_45_6_j107 (B : Wd) (x0 : Nat) (x3 : Int32) (x4 : Int32) (x5 : Int32) : Option ((Int32 × Int32 × Wd) ⊕ (Int32 × Wd)) :=
  some (.inl (x4, (x5 + 1), B))
theorem j_45_6_j107 {d : Nat} (hd : 4 ≤ d) {scr : ASc} {res : ARe} {B : Wd} {x0 : Nat} {x3 : Int32} {x4 : Int32} {x5 : Int32} {o : (Int32 × Int32 × Wd) ⊕ (Int32 × Wd)} (hr : J_45_6_j107 B x0 x3 x4 x5 = some o) (ka : ∀ s, o = .inl s → Ex d am_M45 scr (P_45_6 x0 x3 s) res) (kx : ∀ s, o = .inr s → Ex d am_M45 scr (PX_45_6 x0 x3 s) res) : Ex d am_M45 scr (107, [some (.ref x0), some (.ref 28), none, some (.int x3), some (.int x4), some (.int x5), none, none, none], [], (mk B), B.kc, B.kn) res := by
  delta J_45_6_j107 at hr
  refine x_b 2 (S2 := (6, [some (.ref x0), some (.ref 28), none, some (.int x3), some (.int x4), some (.int (x5 + 1)), none, none, none], [], (mk B), B.kc, B.kn)) rfl ?_
  refine x_fg (Lq.s (Lq.s (Lq.s (Lq.s (Lq.s (Lq.s (Lq.s (Lq.s (Lq.s Lq.nil))))))))) ?_
  exact ka (x4, (x5 + 1), B) (Option.some.inj hr).symm
def G_45_6 (x0 : Nat) (x3 : Int32) (s : Int32 × Int32 × Wd) : Option ((Int32 × Int32 × Wd) ⊕ (Int32 × Wd)) := 
  match s with
  | (x4, x5, B) =>
    if x3 ≤ x5 then
      some (.inr (x4, B))
    else
      (ix x5 2048).bind fun i2 =>
      (B.fp x0).bind fun D4 =>
      (lw (G_45_26 x0 x3 x5 (B.row i2)) 200000 (x4, (D4.vertices - 1), B)).bind fun (v34, B35) =>
      J_45_6_j107 B35 x0 x3 v34 x5
theorem g_45_6 {d : Nat} (hd : 4 ≤ d) {scr : ASc} {res : ARe} {x0 : Nat} {x3 : Int32} {s : Int32 × Int32 × Wd} {o : (Int32 × Int32 × Wd) ⊕ (Int32 × Wd)} (hr : G_45_6 x0 x3 s = some o) (ka : ∀ s, o = .inl s → Ex d am_M45 scr (P_45_6 x0 x3 s) res) (kx : ∀ s, o = .inr s → Ex d am_M45 scr (PX_45_6 x0 x3 s) res) : Ex d am_M45 scr (P_45_6 x0 x3 s) res := by
  obtain ⟨x4, x5, B⟩ := s
  delta G_45_6 at hr
  show Ex d am_M45 scr (6, [some (.ref x0), some (.ref 28), none, some (.int x3), some (.int x4), some (.int x5), none, none, none], [], (mk B), B.kc, B.kn) res
  refine x_b 2 (S2 := (9, [some (.ref x0), some (.ref 28), none, some (.int x3), some (.int x4), some (.int x5), none, none, none], [.int x3, .int x5], (mk B), B.kc, B.kn)) rfl ?_
  rcases ite_some hr with ⟨h1, hr⟩ | ⟨h1, hr⟩
  · refine x_ct rfl rfl (decide_eq_true h1) ?_
    refine x_fg (Lq.n (Lq.n (Lq.s (Lq.n (Lq.s (Lq.n (Lq.s (Lq.s (Lq.s Lq.nil))))))))) ?_
    exact kx (x4, B) (Option.some.inj hr).symm
  · refine x_cf rfl rfl (decide_eq_false h1) ?_
    refine x_ldan rfl rfl rfl ((rg_row (W := B)).lt (i := 0) (show 0 < 1 by decide)) ?_
    refine x_b 1 (S2 := (15, [some (.ref x0), some (.ref 28), none, some (.int x3), some (.int x4), some (.int x5), none, none, none], [.int x5, .ref 28], (mk B), B.kc, B.kn)) rfl ?_
    obtain ⟨i2, h3, hr⟩ := bd_some hr
    refine x_iald rfl rfl ((rg_row (W := B)).lt (i := 0) (show 0 < 1 by decide)) ((rg_row (W := B)).at (i := 0) rfl) h3 ?_
    refine x_b 1 (S2 := (18, [some (.ref x0), some (.ref 28), none, some (.int x3), some (.int x4), some (.int x5), some (.int (B.row i2)), none, none], [], (mk B), B.kc, B.kn)) rfl ?_
    obtain ⟨D4, h5, hr⟩ := bd_some hr
    refine x_ldan rfl rfl rfl ((rg_fp h5).lt (i := 0) (show 0 < 6 by decide)) ?_
    refine x_getf rfl rfl ((rg_fp h5).lt (i := 0) (show 0 < 6 by decide)) ((rg_fp h5).at (i := 0) rfl) rfl ?_
    refine x_b 3 (S2 := (26, [some (.ref x0), some (.ref 28), none, some (.int x3), some (.int x4), some (.int x5), some (.int (B.row i2)), some (.int (D4.vertices - 1)), none], [], (mk B), B.kc, B.kn)) rfl ?_
    refine x_fg (Lq.s (Lq.s (Lq.s (Lq.s (Lq.s (Lq.s (Lq.s (Lq.s (Lq.s Lq.nil))))))))) ?_
    obtain ⟨o36, h33, hr⟩ := bd_some hr
    refine x_lw (P := P_45_26 x0 x3 x5 (B.row i2)) (Q := fun x => Ex d am_M45 scr (PX_45_26 x0 x3 x5 (B.row i2) x) res) (fun s o h1 ka kx => g_45_26 hd h1 ka kx) _ (x4, (D4.vertices - 1), B) _ h33 ?_
    obtain ⟨v34, B35⟩ := o36
    show Ex d am_M45 scr (107, [some (.ref x0), some (.ref 28), none, some (.int x3), some (.int v34), some (.int x5), none, none, none], [], (mk B35), B35.kc, B35.kn) res
    refine x_fg (Lq.s (Lq.s (Lq.s (Lq.s (Lq.s (Lq.s (Lq.s (Lq.s (Lq.s Lq.nil))))))))) ?_
    exact j_45_6_j107 hd hr ka kx
/-- PebbleProofs$FailingPiles.extend([III)I -/
def F_45 (B : Wd) (x0 : Nat) (x2 : Int32) (x3 : Int32) : Option (Int32 × Wd) :=
  (lw (G_45_6 x0 x3) 200000 (x3, x2, B)).bind fun (v38, B39) =>
  some (v38, B39)
theorem f_45 {d : Nat} (hd : 4 ≤ d) {scr : ASc} {res : ARe} {B : Wd} {x0 : Nat} {x2 : Int32} {x3 : Int32} {o : Int32 × Wd} (hr : F_45 B x0 x2 x3 = some o) (kr : res = (.inl (some (.int o.1)), mk o.2, Wd.kc o.2, Wd.kn o.2)) : Ex d am_M45 scr (0, [some (.ref x0), some (.ref 28), some (.int x2), some (.int x3), none, none, none, none, none], [], (mk B), B.kc, B.kn) res := by
  delta F_45 at hr
  refine x_b 4 (S2 := (6, [some (.ref x0), some (.ref 28), some (.int x2), some (.int x3), some (.int x3), some (.int x2), none, none, none], [], (mk B), B.kc, B.kn)) rfl ?_
  refine x_fg (Lq.s (Lq.s (Lq.n (Lq.s (Lq.s (Lq.s (Lq.s (Lq.s (Lq.s Lq.nil))))))))) ?_
  obtain ⟨o40, h37, hr⟩ := bd_some hr
  refine x_lw (P := P_45_6 x0 x3) (Q := fun x => Ex d am_M45 scr (PX_45_6 x0 x3 x) res) (fun s o h1 ka kx => g_45_6 hd h1 ka kx) _ (x3, x2, B) _ h37 ?_
  obtain ⟨v38, B39⟩ := o40
  show Ex d am_M45 scr (113, [none, none, none, none, some (.int v38), none, none, none, none], [], (mk B39), B39.kc, B39.kn) res
  refine x_b 1 (S2 := (115, [none, none, none, none, some (.int v38), none, none, none, none], [.int v38], (mk B39), B39.kc, B39.kn)) rfl ?_
  cases hr
  rw [kr]
  exact x_ret rfl rfl am_ret_i
theorem m_45 {scr : ASc} {B : Wd} {x0 : Nat} {x2 : Int32} {x3 : Int32} {o : Int32 × Wd} (hr : F_45 B x0 x2 x3 = some o) : RnW scr 5 45 [.ref x0, .ref 28, .int x2, .int x3] B (.inl (some (.int o.1))) o.2 :=
  x_methW (M := am_M45) rfl (show 4 ≤ 9 by decide) (f_45 (Nat.le_refl _) hr rfl)
abbrev P_44_22 (x0 : Nat) (s : Int32 × Int32 × Int32 × Wd) : ASt := (22, [some (.ref x0), none, some (.ref 28), some (.int s.1), some (.int s.2.1), some (.int s.2.2.1), none], [], (mk s.2.2.2), Wd.kc s.2.2.2, Wd.kn s.2.2.2)
abbrev PX_44_22 (x0 : Nat) (s : Wd) : ASt := (92, [none, none, none, none, none, none, none], [], (mk s), Wd.kc s, Wd.kn s)
def G_44_22 (x0 : Nat) (s : Int32 × Int32 × Int32 × Wd) : Option ((Int32 × Int32 × Int32 × Wd) ⊕ (Wd)) := 
  match s with
  | (x3, x4, x5, B) =>
    if 99 < x5 then
      some (.inr B)
    else
      if x4 ≤ x3 then
        some (.inr B)
      else
        (B.fp x0).bind fun D19 =>
        (ix x5 100).bind fun i21 =>
        (some (D19.w_howMany (upd D19.howMany i21 (x4 - x3)))).bind fun o23 =>
        (some (B.sfp x0 o23)).bind fun B25 =>
        (B25.fp x0).bind fun D27 =>
        (some (D27.w_leastNumber (x5 + 1))).bind fun o29 =>
        (some (B25.sfp x0 o29)).bind fun B31 =>
        (B31.fp x0).bind fun D33 =>
        (some (D33.w_worstCount (x4 - x3))).bind fun o35 =>
        (some (B31.sfp x0 o35)).bind fun B37 =>
        (B37.fp x0).bind fun D39 =>
        (ix x3 2048).bind fun i41 =>
        (some (D39.w_firstWorst (B37.row i41))).bind fun o43 =>
        (some (B37.sfp x0 o43)).bind fun B45 =>
        (B45.fp x0).bind fun D47 =>
        (F_45 B45 x0 x3 x4).bind fun (v50, B51) =>
        some (.inl (x4, v50, (x5 + 1), B51))
theorem g_44_22 {d : Nat} (hd : 5 ≤ d) {scr : ASc} {res : ARe} {x0 : Nat} {s : Int32 × Int32 × Int32 × Wd} {o : (Int32 × Int32 × Int32 × Wd) ⊕ (Wd)} (hr : G_44_22 x0 s = some o) (ka : ∀ s, o = .inl s → Ex d am_M44 scr (P_44_22 x0 s) res) (kx : ∀ s, o = .inr s → Ex d am_M44 scr (PX_44_22 x0 s) res) : Ex d am_M44 scr (P_44_22 x0 s) res := by
  obtain ⟨x3, x4, x5, B⟩ := s
  delta G_44_22 at hr
  show Ex d am_M44 scr (22, [some (.ref x0), none, some (.ref 28), some (.int x3), some (.int x4), some (.int x5), none], [], (mk B), B.kc, B.kn) res
  refine x_b 2 (S2 := (26, [some (.ref x0), none, some (.ref 28), some (.int x3), some (.int x4), some (.int x5), none], [.int 99, .int x5], (mk B), B.kc, B.kn)) rfl ?_
  rcases ite_some hr with ⟨h17, hr⟩ | ⟨h17, hr⟩
  · refine x_ct rfl rfl (decide_eq_true h17) ?_
    refine x_fg (Lq.n (Lq.s (Lq.n (Lq.n (Lq.n (Lq.n (Lq.s Lq.nil))))))) ?_
    exact kx B (Option.some.inj hr).symm
  · refine x_cf rfl rfl (decide_eq_false h17) ?_
    refine x_b 2 (S2 := (32, [some (.ref x0), none, some (.ref 28), some (.int x3), some (.int x4), some (.int x5), none], [.int x4, .int x3], (mk B), B.kc, B.kn)) rfl ?_
    rcases ite_some hr with ⟨h18, hr⟩ | ⟨h18, hr⟩
    · refine x_ct rfl rfl (decide_eq_true h18) ?_
      refine x_fg (Lq.n (Lq.s (Lq.n (Lq.n (Lq.n (Lq.n (Lq.s Lq.nil))))))) ?_
      exact kx B (Option.some.inj hr).symm
    · refine x_cf rfl rfl (decide_eq_false h18) ?_
      obtain ⟨D19, h20, hr⟩ := bd_some hr
      refine x_ldan rfl rfl rfl ((rg_fp h20).lt (i := 0) (show 0 < 6 by decide)) ?_
      refine x_getf rfl rfl ((rg_fp h20).lt (i := 0) (show 0 < 6 by decide)) ((rg_fp h20).at (i := 0) rfl) rfl ?_
      refine x_b 4 (S2 := (45, [some (.ref x0), none, some (.ref 28), some (.int x3), some (.int x4), some (.int x5), none], [.int (x4 - x3), .int x5, .ref (x0 + 1)], (mk B), B.kc, B.kn)) rfl ?_
      obtain ⟨i21, h22, hr⟩ := bd_some hr
      obtain ⟨o23, h24, hr⟩ := bd_some hr
      obtain ⟨B25, h26, hr⟩ := bd_some hr
      refine x_iast (H := (mk B25)) rfl rfl ((rg_fp h20).lt (i := 1) (show 1 < 6 by decide)) ((rg_fp h20).at (i := 1) rfl) h22 (ws_fp (i := 1) h20 (FP.s_howMany h24) h26 (by decide)) ?_
      refine x_kk (kk_fp h26) ?_
      obtain ⟨D27, h28, hr⟩ := bd_some hr
      refine x_ldan rfl rfl rfl ((rg_fp h28).lt (i := 0) (show 0 < 6 by decide)) ?_
      refine x_b 3 (S2 := (51, [some (.ref x0), none, some (.ref 28), some (.int x3), some (.int x4), some (.int x5), none], [.int (x5 + 1), .ref x0], (mk B25), B25.kc, B25.kn)) rfl ?_
      obtain ⟨o29, h30, hr⟩ := bd_some hr
      obtain ⟨B31, h32, hr⟩ := bd_some hr
      refine x_putf (H := (mk B31)) rfl rfl ((rg_fp h28).lt (i := 0) (show 0 < 6 by decide)) ((rg_fp h28).at (i := 0) rfl) ⟨(show 4 < 12 by decide), rfl, rfl, nofun⟩ (ws_fp (i := 0) h28 (FP.s_leastNumber rfl h30) h32 (by decide)) ?_
      refine x_kk (kk_fp h32) ?_
      obtain ⟨D33, h34, hr⟩ := bd_some hr
      refine x_ldan rfl rfl rfl ((rg_fp h34).lt (i := 0) (show 0 < 6 by decide)) ?_
      refine x_b 3 (S2 := (59, [some (.ref x0), none, some (.ref 28), some (.int x3), some (.int x4), some (.int x5), none], [.int (x4 - x3), .ref x0], (mk B31), B31.kc, B31.kn)) rfl ?_
      obtain ⟨o35, h36, hr⟩ := bd_some hr
      obtain ⟨B37, h38, hr⟩ := bd_some hr
      refine x_putf (H := (mk B37)) rfl rfl ((rg_fp h34).lt (i := 0) (show 0 < 6 by decide)) ((rg_fp h34).at (i := 0) rfl) ⟨(show 5 < 12 by decide), rfl, rfl, nofun⟩ (ws_fp (i := 0) h34 (FP.s_worstCount rfl h36) h38 (by decide)) ?_
      refine x_kk (kk_fp h38) ?_
      obtain ⟨D39, h40, hr⟩ := bd_some hr
      refine x_ldan rfl rfl rfl ((rg_fp h40).lt (i := 0) (show 0 < 6 by decide)) ?_
      refine x_ldan rfl rfl rfl ((rg_row (W := B37)).lt (i := 0) (show 0 < 1 by decide)) ?_
      refine x_b 1 (S2 := (65, [some (.ref x0), none, some (.ref 28), some (.int x3), some (.int x4), some (.int x5), none], [.int x3, .ref 28, .ref x0], (mk B37), B37.kc, B37.kn)) rfl ?_
      obtain ⟨i41, h42, hr⟩ := bd_some hr
      refine x_iald rfl rfl ((rg_row (W := B37)).lt (i := 0) (show 0 < 1 by decide)) ((rg_row (W := B37)).at (i := 0) rfl) h42 ?_
      obtain ⟨o43, h44, hr⟩ := bd_some hr
      obtain ⟨B45, h46, hr⟩ := bd_some hr
      refine x_putf (H := (mk B45)) rfl rfl ((rg_fp h40).lt (i := 0) (show 0 < 6 by decide)) ((rg_fp h40).at (i := 0) rfl) ⟨(show 6 < 12 by decide), rfl, rfl, nofun⟩ (ws_fp (i := 0) h40 (FP.s_firstWorst rfl h44) h46 (by decide)) ?_
      refine x_kk (kk_fp h46) ?_
      obtain ⟨D47, h48, hr⟩ := bd_some hr
      refine x_ldan rfl rfl rfl ((rg_fp h48).lt (i := 0) (show 0 < 6 by decide)) ?_
      refine x_ldan rfl rfl rfl ((rg_row (W := B45)).lt (i := 0) (show 0 < 1 by decide)) ?_
      refine x_b 2 (S2 := (74, [some (.ref x0), none, some (.ref 28), some (.int x3), some (.int x4), some (.int x5), none], [.int x4, .int x3, .ref 28, .ref x0], (mk B45), B45.kc, B45.kn)) rfl ?_
      obtain ⟨⟨v50, B51⟩, h49, hr⟩ := bd_some hr
      refine x_cW (m_45 h49) rfl rfl rfl rfl (am_recv_v ((rg_fp h48).lt (i := 0) (show 0 < 6 by decide)) ((rg_fp h48).at (i := 0) rfl) rfl) (by omega) ?_
      refine x_b 7 (S2 := (22, [some (.ref x0), none, some (.ref 28), some (.int x4), some (.int v50), some (.int (x5 + 1)), some (.int v50)], [], (mk B51), B51.kc, B51.kn)) rfl ?_
      refine x_fg (Lq.s (Lq.s (Lq.s (Lq.s (Lq.s (Lq.s (Lq.n Lq.nil))))))) ?_
      exact ka (x4, v50, (x5 + 1), B51) (Option.some.inj hr).symm
def J_44_0_j92 (B : Wd) : Option (Wd) :=
  some B
theorem j_44_0_j92 {d : Nat} (hd : 5 ≤ d) {scr : ASc} {res : ARe} {B : Wd} {o : Wd} (hr : J_44_0_j92 B = some o) (kr : res = (.inl none, mk o, Wd.kc o, Wd.kn o)) : Ex d am_M44 scr (92, [none, none, none, none, none, none, none], [], (mk B), B.kc, B.kn) res := by
  delta J_44_0_j92 at hr
  cases hr
  rw [kr]
  exact x_ret rfl rfl rfl
/-- PebbleProofs$FailingPiles.collect(LPebbleProofs$Board;[I)V -/
def F_44 (B : Wd) (x0 : Nat) : Option (Wd) :=
  (B.fp x0).bind fun D1 =>
  (F_38 B x0).bind fun B4 =>
  (ix 0 2048).bind fun i5 =>
  (some (upd B4.row i5 0)).bind fun o7 =>
  (some (B4.w_row o7)).bind fun B9 =>
  (B9.fp x0).bind fun D11 =>
  (F_39 D11 0).bind fun o14 =>
  (some (B9.sfp x0 o14)).bind fun B15 =>
  (lw (G_44_22 x0) 200000 (0, 1, 0, B15)).bind fun B53 =>
  J_44_0_j92 B53
theorem f_44 {d : Nat} (hd : 5 ≤ d) {scr : ASc} {res : ARe} {B : Wd} {x0 : Nat} {o : Wd} (hr : F_44 B x0 = some o) (kr : res = (.inl none, mk o, Wd.kc o, Wd.kn o)) : Ex d am_M44 scr (0, [some (.ref x0), some (.ref 1), some (.ref 28), none, none, none, none], [], (mk B), B.kc, B.kn) res := by
  delta F_44 at hr
  obtain ⟨D1, h2, hr⟩ := bd_some hr
  refine x_ldan rfl rfl rfl ((rg_fp h2).lt (i := 0) (show 0 < 6 by decide)) ?_
  refine x_ldan rfl rfl rfl ((rg_board (W := B)).lt (i := 0) (show 0 < 6 by decide)) ?_
  obtain ⟨B4, h3, hr⟩ := bd_some hr
  refine x_cW (m_38 h3) rfl rfl rfl rfl (am_recv_v ((rg_fp h2).lt (i := 0) (show 0 < 6 by decide)) ((rg_fp h2).at (i := 0) rfl) rfl) (by omega) ?_
  refine x_ldan rfl rfl rfl ((rg_row (W := B4)).lt (i := 0) (show 0 < 1 by decide)) ?_
  refine x_b 2 (S2 := (8, [some (.ref x0), some (.ref 1), some (.ref 28), none, none, none, none], [.int 0, .int 0, .ref 28], (mk B4), B4.kc, B4.kn)) rfl ?_
  obtain ⟨i5, h6, hr⟩ := bd_some hr
  obtain ⟨o7, h8, hr⟩ := bd_some hr
  obtain ⟨B9, h10, hr⟩ := bd_some hr
  refine x_iast (H := (mk B9)) rfl rfl ((rg_row (W := B4)).lt (i := 0) (show 0 < 1 by decide)) ((rg_row (W := B4)).at (i := 0) rfl) h6 (ws_row (i := 0) (Ar.s_ h8) h10 (by decide)) ?_
  refine x_kk (kk_row h10) ?_
  obtain ⟨D11, h12, hr⟩ := bd_some hr
  refine x_ldan rfl rfl rfl ((rg_fp h12).lt (i := 0) (show 0 < 6 by decide)) ?_
  refine x_b 1 (S2 := (11, [some (.ref x0), some (.ref 1), some (.ref 28), none, none, none, none], [.int 0, .ref x0], (mk B9), B9.kc, B9.kn)) rfl ?_
  obtain ⟨o14, h13, hr⟩ := bd_some hr
  obtain ⟨B15, h16, hr⟩ := bd_some hr
  refine x_cW (wc_fp h12 (fun H hb hh hH => m_39 hb hh h13) h16) rfl rfl rfl rfl (am_recv_v ((rg_fp h12).lt (i := 0) (show 0 < 6 by decide)) ((rg_fp h12).at (i := 0) rfl) rfl) (by omega) ?_
  refine x_b 6 (S2 := (22, [some (.ref x0), some (.ref 1), some (.ref 28), some (.int 0), some (.int 1), some (.int 0), none], [], (mk B15), B15.kc, B15.kn)) rfl ?_
  refine x_fg (Lq.s (Lq.n (Lq.s (Lq.s (Lq.s (Lq.s (Lq.s Lq.nil))))))) ?_
  obtain ⟨B53, h52, hr⟩ := bd_some hr
  refine x_lw (P := P_44_22 x0) (Q := fun x => Ex d am_M44 scr (PX_44_22 x0 x) res) (fun s o h1 ka kx => g_44_22 hd h1 ka kx) _ (0, 1, 0, B15) _ h52 ?_
  show Ex d am_M44 scr (92, [none, none, none, none, none, none, none], [], (mk B53), B53.kc, B53.kn) res
  refine x_fg (Lq.s (Lq.s (Lq.s (Lq.s (Lq.s (Lq.s (Lq.s Lq.nil))))))) ?_
  exact j_44_0_j92 hd hr kr
theorem m_44 {scr : ASc} {B : Wd} {x0 : Nat} {o : Wd} (hr : F_44 B x0 = some o) : RnW scr 6 44 [.ref x0, .ref 1, .ref 28] B (.inl none) o :=
  x_methW (M := am_M44) rfl (show 3 ≤ 7 by decide) (f_44 (Nat.le_refl _) hr rfl)
/-- PebbleProofs$History.forget()V -/
def F_49 (B : Wd) : Option (Wd) :=
  (some (B.hist.w_size 0)).bind fun o1 =>
  (some (B.w_hist o1)).bind fun B3 =>
  some B3
theorem f_49 {d : Nat} (hd : 1 ≤ d) {scr : ASc} {res : ARe} {B : Wd} {o : Wd} (hr : F_49 B = some o) (kr : res = (.inl none, mk o, Wd.kc o, Wd.kn o)) : Ex d am_M49 scr (0, [some (.ref 13)], [], (mk B), B.kc, B.kn) res := by
  delta F_49 at hr
  refine x_ldan rfl rfl rfl ((rg_hist (W := B)).lt (i := 0) (show 0 < 2 by decide)) ?_
  refine x_b 1 (S2 := (2, [some (.ref 13)], [.int 0, .ref 13], (mk B), B.kc, B.kn)) rfl ?_
  obtain ⟨o1, h2, hr⟩ := bd_some hr
  obtain ⟨B3, h4, hr⟩ := bd_some hr
  refine x_putf (H := (mk B3)) rfl rfl ((rg_hist (W := B)).lt (i := 0) (show 0 < 2 by decide)) ((rg_hist (W := B)).at (i := 0) rfl) ⟨(show 2 < 3 by decide), rfl, rfl, nofun⟩ (ws_hist (i := 0) (Hs.s_size rfl h2) h4 (by decide)) ?_
  refine x_kk (kk_hist h4) ?_
  cases hr
  rw [kr]
  exact x_ret rfl rfl rfl
theorem m_49 {scr : ASc} {B : Wd} {o : Wd} (hr : F_49 B = some o) : RnW scr 2 49 [.ref 13] B (.inl none) o :=
  x_methW (M := am_M49) rfl (show 1 ≤ 1 by decide) (f_49 (Nat.le_refl _) hr rfl)
def J_50_0_j71 (B : Wd) (x3 : Nat) : Option (Wd) :=
  (B.bd x3).bind fun D17 =>
  (F_2 D17 B.board).bind fun o20 =>
  (some (B.sbd x3 o20)).bind fun B21 =>
  (some (B21.hist.w_size (B21.hist.size + 1))).bind fun o23 =>
  (some (B21.w_hist o23)).bind fun B25 =>
  some B25
theorem j_50_0_j71 {d : Nat} (hd : 2 ≤ d) {scr : ASc} {res : ARe} {B : Wd} {x3 : Nat} {o : Wd} (hr : J_50_0_j71 B x3 = some o) (kr : res = (.inl none, mk o, Wd.kc o, Wd.kn o)) : Ex d am_M50 scr (71, [some (.ref 13), some (.ref 1), none, some (.ref x3)], [], (mk B), B.kc, B.kn) res := by
  delta J_50_0_j71 at hr
  obtain ⟨D17, h18, hr⟩ := bd_some hr
  refine x_ldan rfl rfl rfl ((rg_bd h18).lt (i := 0) (show 0 < 6 by decide)) ?_
  refine x_ldan rfl rfl rfl ((rg_board (W := B)).lt (i := 0) (show 0 < 6 by decide)) ?_
  obtain ⟨o20, h19, hr⟩ := bd_some hr
  obtain ⟨B21, h22, hr⟩ := bd_some hr
  refine x_cW (wc_bd h18 (fun H hb hh hH => m_2 hb hh (show 1 + 6 ≤ x3 ∨ x3 + 6 ≤ 1 by have := (ge_bd h18); omega) (fun L hl => by subst hH; exact Rg.far (rg_bd h18) hl (rg_board (W := B)) (show 1 + 6 ≤ x3 ∨ x3 + 6 ≤ 1 by have := (ge_bd h18); omega)) h19) h22) rfl rfl rfl rfl (am_recv_v ((rg_bd h18).lt (i := 0) (show 0 < 6 by decide)) ((rg_bd h18).at (i := 0) rfl) rfl) (by omega) ?_
  refine x_ldan rfl rfl rfl ((rg_hist (W := B21)).lt (i := 0) (show 0 < 2 by decide)) ?_
  refine x_b 1 (S2 := (78, [some (.ref 13), some (.ref 1), none, some (.ref x3)], [.ref 13, .ref 13], (mk B21), B21.kc, B21.kn)) rfl ?_
  refine x_getf rfl rfl ((rg_hist (W := B21)).lt (i := 0) (show 0 < 2 by decide)) ((rg_hist (W := B21)).at (i := 0) rfl) rfl ?_
  refine x_b 2 (S2 := (83, [some (.ref 13), some (.ref 1), none, some (.ref x3)], [.int (B21.hist.size + 1), .ref 13], (mk B21), B21.kc, B21.kn)) rfl ?_
  obtain ⟨o23, h24, hr⟩ := bd_some hr
  obtain ⟨B25, h26, hr⟩ := bd_some hr
  refine x_putf (H := (mk B25)) rfl rfl ((rg_hist (W := B21)).lt (i := 0) (show 0 < 2 by decide)) ((rg_hist (W := B21)).at (i := 0) rfl) ⟨(show 2 < 3 by decide), rfl, rfl, nofun⟩ (ws_hist (i := 0) (Hs.s_size rfl h24) h26 (by decide)) ?_
  refine x_kk (kk_hist h26) ?_
  cases hr
  rw [kr]
  exact x_ret rfl rfl rfl
def J_50_0_j32 (B : Wd) : Option (Wd) :=
  (ix ((B.hist.oldest + B.hist.size) - (B.hist.oldest + B.hist.size) / 10 * 10) 10).bind fun i2 =>
  oq (B.hist.ring i2) (
    if B.top < 900000 then (
    (some (B.pushB)).bind fun B7 =>
    (B7.bd B.top).bind fun D9 =>
    (ix ((B.hist.oldest + B.hist.size) - (B.hist.oldest + B.hist.size) / 10 * 10) 10).bind fun i11 =>
    (some (B7.hist.w_ring (va_up B7.hist.ring i11 (some B.top)))).bind fun o13 =>
    (some (B7.w_hist o13)).bind fun B15 =>
    J_50_0_j71 B15 B.top) else none) fun a4 =>
  (B.bd a4).bind fun D27 =>
  J_50_0_j71 B a4
theorem j_50_0_j32 {d : Nat} (hd : 2 ≤ d) {scr : ASc} {res : ARe} {B : Wd} {o : Wd} (hr : J_50_0_j32 B = some o) (kr : res = (.inl none, mk o, Wd.kc o, Wd.kn o)) : Ex d am_M50 scr (32, [some (.ref 13), some (.ref 1), none, none], [], (mk B), B.kc, B.kn) res := by
  delta J_50_0_j32 at hr
  refine x_ldan rfl rfl rfl ((rg_hist (W := B)).lt (i := 0) (show 0 < 2 by decide)) ?_
  refine x_getf rfl rfl ((rg_hist (W := B)).lt (i := 0) (show 0 < 2 by decide)) ((rg_hist (W := B)).at (i := 0) rfl) rfl ?_
  refine x_ldan rfl rfl rfl ((rg_hist (W := B)).lt (i := 0) (show 0 < 2 by decide)) ?_
  refine x_getf rfl rfl ((rg_hist (W := B)).lt (i := 0) (show 0 < 2 by decide)) ((rg_hist (W := B)).at (i := 0) rfl) rfl ?_
  refine x_b 2 (S2 := (43, [some (.ref 13), some (.ref 1), none, none], [.int 10, .int (B.hist.oldest + B.hist.size)], (mk B), B.kc, B.kn)) rfl ?_
  refine x_rem rfl rfl (by decide) ?_
  refine x_b 1 (S2 := (45, [some (.ref 13), some (.ref 1), some (.int ((B.hist.oldest + B.hist.size) - (B.hist.oldest + B.hist.size) / 10 * 10)), none], [], (mk B), B.kc, B.kn)) rfl ?_
  refine x_ldan rfl rfl rfl ((rg_hist (W := B)).lt (i := 0) (show 0 < 2 by decide)) ?_
  refine x_getf rfl rfl ((rg_hist (W := B)).lt (i := 0) (show 0 < 2 by decide)) ((rg_hist (W := B)).at (i := 0) rfl) rfl ?_
  refine x_b 1 (S2 := (50, [some (.ref 13), some (.ref 1), some (.int ((B.hist.oldest + B.hist.size) - (B.hist.oldest + B.hist.size) / 10 * 10)), none], [.int ((B.hist.oldest + B.hist.size) - (B.hist.oldest + B.hist.size) / 10 * 10), .ref (13 + 1)], (mk B), B.kc, B.kn)) rfl ?_
  obtain ⟨i2, h3, hr⟩ := bd_some hr
  rcases oq_some hr with ⟨h5, hr⟩ | ⟨a4, h5, hr⟩
  · refine x_aaN rfl rfl ((rg_hist (W := B)).lt (i := 1) (show 1 < 2 by decide)) ((rg_hist (W := B)).at (i := 1) rfl) (by decide) h3 h5 ?_
    refine x_b 1 (S2 := (52, [some (.ref 13), some (.ref 1), some (.int ((B.hist.oldest + B.hist.size) - (B.hist.oldest + B.hist.size) / 10 * 10)), some (.null)], [], (mk B), B.kc, B.kn)) rfl ?_
    refine x_ldnn rfl rfl rfl ?_
    refine x_nulN rfl rfl ?_
    obtain ⟨h6, hr⟩ := itn_some hr
    obtain ⟨B7, h8, hr⟩ := bd_some hr
    refine x_newW rfl rfl (by decide) h6 ?_
    refine x_b 1 (S2 := (60, [some (.ref 13), some (.ref 1), some (.int ((B.hist.oldest + B.hist.size) - (B.hist.oldest + B.hist.size) / 10 * 10)), some (.null)], [.ref B.top, .ref B.top], mk B ++ [.inr (0, am_fd 0)], B.kc + 1, B.kn + (am_fd 0).length)) rfl ?_
    refine x_newB h6 h8 rfl rfl (by omega) ?_
    obtain ⟨D9, h10, hr⟩ := bd_some hr
    refine x_stan rfl rfl (show 3 < 4 by decide) (lt_ne ((rg_bd h10).lt (i := 0) (show 0 < 6 by decide))) rfl ?_
    refine x_ldan rfl rfl rfl ((rg_hist (W := B7)).lt (i := 0) (show 0 < 2 by decide)) ?_
    refine x_getf rfl rfl ((rg_hist (W := B7)).lt (i := 0) (show 0 < 2 by decide)) ((rg_hist (W := B7)).at (i := 0) rfl) rfl ?_
    refine x_b 1 (S2 := (69, [some (.ref 13), some (.ref 1), some (.int ((B.hist.oldest + B.hist.size) - (B.hist.oldest + B.hist.size) / 10 * 10)), some (.ref B.top)], [.int ((B.hist.oldest + B.hist.size) - (B.hist.oldest + B.hist.size) / 10 * 10), .ref (13 + 1)], (mk B7), B7.kc, B7.kn)) rfl ?_
    refine x_ldan rfl rfl rfl ((rg_bd h10).lt (i := 0) (show 0 < 6 by decide)) ?_
    obtain ⟨i11, h12, hr⟩ := bd_some hr
    obtain ⟨o13, h14, hr⟩ := bd_some hr
    obtain ⟨B15, h16, hr⟩ := bd_some hr
    refine x_aast (H := (mk B15)) rfl rfl ((rg_hist (W := B7)).lt (i := 1) (show 1 < 2 by decide)) ((rg_bd h10).lt (i := 0) (show 0 < 6 by decide)) ((rg_hist (W := B7)).at (i := 1) rfl) ((rg_bd h10).at (i := 0) rfl) rfl h12 (ws_hist (i := 1) (Hs.s_ring h14) h16 (by decide)) ?_
    refine x_kk (kk_hist h16) ?_
    refine x_fg (Lq.s (Lq.s (Lq.n (Lq.s Lq.nil)))) ?_
    exact j_50_0_j71 hd hr kr
  · refine x_aaS rfl rfl ((rg_hist (W := B)).lt (i := 1) (show 1 < 2 by decide)) ((rg_hist (W := B)).at (i := 1) rfl) (by decide) h3 h5 ?_
    obtain ⟨D27, h28, hr⟩ := bd_some hr
    refine x_stan rfl rfl (show 3 < 4 by decide) (lt_ne ((rg_bd h28).lt (i := 0) (show 0 < 6 by decide))) rfl ?_
    refine x_ldan rfl rfl rfl ((rg_bd h28).lt (i := 0) (show 0 < 6 by decide)) ?_
    refine x_nulS rfl rfl ((rg_bd h28).lt (i := 0) (show 0 < 6 by decide)) ?_
    refine x_fg (Lq.s (Lq.s (Lq.n (Lq.s Lq.nil)))) ?_
    exact j_50_0_j71 hd hr kr
/-- PebbleProofs$History.keep(LPebbleProofs$Board;)V -/
def F_50 (B : Wd) : Option (Wd) :=
  if ¬ B.hist.size = 10 then
    J_50_0_j32 B
  else
    (some (B.hist.w_oldest ((B.hist.oldest + 1) - (B.hist.oldest + 1) / 10 * 10))).bind fun o29 =>
    (some (B.w_hist o29)).bind fun B31 =>
    (some (B31.hist.w_size (B31.hist.size - 1))).bind fun o33 =>
    (some (B31.w_hist o33)).bind fun B35 =>
    J_50_0_j32 B35
theorem f_50 {d : Nat} (hd : 2 ≤ d) {scr : ASc} {res : ARe} {B : Wd} {o : Wd} (hr : F_50 B = some o) (kr : res = (.inl none, mk o, Wd.kc o, Wd.kn o)) : Ex d am_M50 scr (0, [some (.ref 13), some (.ref 1), none, none], [], (mk B), B.kc, B.kn) res := by
  delta F_50 at hr
  refine x_ldan rfl rfl rfl ((rg_hist (W := B)).lt (i := 0) (show 0 < 2 by decide)) ?_
  refine x_getf rfl rfl ((rg_hist (W := B)).lt (i := 0) (show 0 < 2 by decide)) ((rg_hist (W := B)).at (i := 0) rfl) rfl ?_
  refine x_b 1 (S2 := (6, [some (.ref 13), some (.ref 1), none, none], [.int 10, .int B.hist.size], (mk B), B.kc, B.kn)) rfl ?_
  rcases ite_some hr with ⟨h1, hr⟩ | ⟨h1, hr⟩
  · refine x_ct rfl rfl (decide_eq_true h1) ?_
    refine x_fg (Lq.s (Lq.s (Lq.s (Lq.s Lq.nil)))) ?_
    exact j_50_0_j32 hd hr kr
  · refine x_cf rfl rfl (decide_eq_false h1) ?_
    refine x_ldan rfl rfl rfl ((rg_hist (W := B)).lt (i := 0) (show 0 < 2 by decide)) ?_
    refine x_ldan rfl rfl rfl ((rg_hist (W := B)).lt (i := 0) (show 0 < 2 by decide)) ?_
    refine x_getf rfl rfl ((rg_hist (W := B)).lt (i := 0) (show 0 < 2 by decide)) ((rg_hist (W := B)).at (i := 0) rfl) rfl ?_
    refine x_b 3 (S2 := (18, [some (.ref 13), some (.ref 1), none, none], [.int 10, .int (B.hist.oldest + 1), .ref 13], (mk B), B.kc, B.kn)) rfl ?_
    refine x_rem rfl rfl (by decide) ?_
    obtain ⟨o29, h30, hr⟩ := bd_some hr
    obtain ⟨B31, h32, hr⟩ := bd_some hr
    refine x_putf (H := (mk B31)) rfl rfl ((rg_hist (W := B)).lt (i := 0) (show 0 < 2 by decide)) ((rg_hist (W := B)).at (i := 0) rfl) ⟨(show 1 < 3 by decide), rfl, rfl, nofun⟩ (ws_hist (i := 0) (Hs.s_oldest rfl h30) h32 (by decide)) ?_
    refine x_kk (kk_hist h32) ?_
    refine x_ldan rfl rfl rfl ((rg_hist (W := B31)).lt (i := 0) (show 0 < 2 by decide)) ?_
    refine x_b 1 (S2 := (24, [some (.ref 13), some (.ref 1), none, none], [.ref 13, .ref 13], (mk B31), B31.kc, B31.kn)) rfl ?_
    refine x_getf rfl rfl ((rg_hist (W := B31)).lt (i := 0) (show 0 < 2 by decide)) ((rg_hist (W := B31)).at (i := 0) rfl) rfl ?_
    refine x_b 2 (S2 := (29, [some (.ref 13), some (.ref 1), none, none], [.int (B31.hist.size - 1), .ref 13], (mk B31), B31.kc, B31.kn)) rfl ?_
    obtain ⟨o33, h34, hr⟩ := bd_some hr
    obtain ⟨B35, h36, hr⟩ := bd_some hr
    refine x_putf (H := (mk B35)) rfl rfl ((rg_hist (W := B31)).lt (i := 0) (show 0 < 2 by decide)) ((rg_hist (W := B31)).at (i := 0) rfl) ⟨(show 2 < 3 by decide), rfl, rfl, nofun⟩ (ws_hist (i := 0) (Hs.s_size rfl h34) h36 (by decide)) ?_
    refine x_kk (kk_hist h36) ?_
    refine x_fg (Lq.s (Lq.s (Lq.s (Lq.s Lq.nil)))) ?_
    exact j_50_0_j32 hd hr kr
theorem m_50 {scr : ASc} {B : Wd} {o : Wd} (hr : F_50 B = some o) : RnW scr 3 50 [.ref 13, .ref 1] B (.inl none) o :=
  x_methW (M := am_M50) rfl (show 2 ≤ 4 by decide) (f_50 (Nat.le_refl _) hr rfl)
def J_51_0_j37 (B : Wd) : Option (Wd) :=
  some B
theorem j_51_0_j37 {d : Nat} (hd : 2 ≤ d) {scr : ASc} {res : ARe} {B : Wd} {o : Wd} (hr : J_51_0_j37 B = some o) (kr : res = (.inl none, mk o, Wd.kc o, Wd.kn o)) : Ex d am_M51 scr (37, [none, none, none], [], (mk B), B.kc, B.kn) res := by
  delta J_51_0_j37 at hr
  cases hr
  rw [kr]
  exact x_ret rfl rfl rfl
/-- PebbleProofs$History.bringBack(LPebbleProofs$Board;)V -/
def F_51 (B : Wd) : Option (Wd) :=
  (some (B.hist.w_size (B.hist.size - 1))).bind fun o1 =>
  (some (B.w_hist o1)).bind fun B3 =>
  (ix ((B3.hist.oldest + B3.hist.size) - (B3.hist.oldest + B3.hist.size) / 10 * 10) 10).bind fun i5 =>
  oq (B3.hist.ring i5) (
    J_51_0_j37 B3) fun a7 =>
  (B3.bd a7).bind fun D9 =>
  (F_2 B3.board D9).bind fun o12 =>
  (some (B3.w_board o12)).bind fun B13 =>
  J_51_0_j37 B13
theorem f_51 {d : Nat} (hd : 2 ≤ d) {scr : ASc} {res : ARe} {B : Wd} {o : Wd} (hr : F_51 B = some o) (kr : res = (.inl none, mk o, Wd.kc o, Wd.kn o)) : Ex d am_M51 scr (0, [some (.ref 13), some (.ref 1), none], [], (mk B), B.kc, B.kn) res := by
  delta F_51 at hr
  refine x_ldan rfl rfl rfl ((rg_hist (W := B)).lt (i := 0) (show 0 < 2 by decide)) ?_
  refine x_b 1 (S2 := (2, [some (.ref 13), some (.ref 1), none], [.ref 13, .ref 13], (mk B), B.kc, B.kn)) rfl ?_
  refine x_getf rfl rfl ((rg_hist (W := B)).lt (i := 0) (show 0 < 2 by decide)) ((rg_hist (W := B)).at (i := 0) rfl) rfl ?_
  refine x_b 2 (S2 := (7, [some (.ref 13), some (.ref 1), none], [.int (B.hist.size - 1), .ref 13], (mk B), B.kc, B.kn)) rfl ?_
  obtain ⟨o1, h2, hr⟩ := bd_some hr
  obtain ⟨B3, h4, hr⟩ := bd_some hr
  refine x_putf (H := (mk B3)) rfl rfl ((rg_hist (W := B)).lt (i := 0) (show 0 < 2 by decide)) ((rg_hist (W := B)).at (i := 0) rfl) ⟨(show 2 < 3 by decide), rfl, rfl, nofun⟩ (ws_hist (i := 0) (Hs.s_size rfl h2) h4 (by decide)) ?_
  refine x_kk (kk_hist h4) ?_
  refine x_ldan rfl rfl rfl ((rg_hist (W := B3)).lt (i := 0) (show 0 < 2 by decide)) ?_
  refine x_getf rfl rfl ((rg_hist (W := B3)).lt (i := 0) (show 0 < 2 by decide)) ((rg_hist (W := B3)).at (i := 0) rfl) rfl ?_
  refine x_ldan rfl rfl rfl ((rg_hist (W := B3)).lt (i := 0) (show 0 < 2 by decide)) ?_
  refine x_getf rfl rfl ((rg_hist (W := B3)).lt (i := 0) (show 0 < 2 by decide)) ((rg_hist (W := B3)).at (i := 0) rfl) rfl ?_
  refine x_ldan rfl rfl rfl ((rg_hist (W := B3)).lt (i := 0) (show 0 < 2 by decide)) ?_
  refine x_getf rfl rfl ((rg_hist (W := B3)).lt (i := 0) (show 0 < 2 by decide)) ((rg_hist (W := B3)).at (i := 0) rfl) rfl ?_
  refine x_b 2 (S2 := (25, [some (.ref 13), some (.ref 1), none], [.int 10, .int (B3.hist.oldest + B3.hist.size), .ref (13 + 1)], (mk B3), B3.kc, B3.kn)) rfl ?_
  refine x_rem rfl rfl (by decide) ?_
  obtain ⟨i5, h6, hr⟩ := bd_some hr
  rcases oq_some hr with ⟨h8, hr⟩ | ⟨a7, h8, hr⟩
  · refine x_aaN rfl rfl ((rg_hist (W := B3)).lt (i := 1) (show 1 < 2 by decide)) ((rg_hist (W := B3)).at (i := 1) rfl) (by decide) h6 h8 ?_
    refine x_b 1 (S2 := (28, [some (.ref 13), some (.ref 1), some (.null)], [], (mk B3), B3.kc, B3.kn)) rfl ?_
    refine x_ldnn rfl rfl rfl ?_
    refine x_nnuN rfl rfl ?_
    refine x_fg (Lq.n (Lq.n (Lq.n Lq.nil))) ?_
    exact j_51_0_j37 hd hr kr
  · refine x_aaS rfl rfl ((rg_hist (W := B3)).lt (i := 1) (show 1 < 2 by decide)) ((rg_hist (W := B3)).at (i := 1) rfl) (by decide) h6 h8 ?_
    obtain ⟨D9, h10, hr⟩ := bd_some hr
    refine x_stan rfl rfl (show 2 < 3 by decide) (lt_ne ((rg_bd h10).lt (i := 0) (show 0 < 6 by decide))) rfl ?_
    refine x_ldan rfl rfl rfl ((rg_bd h10).lt (i := 0) (show 0 < 6 by decide)) ?_
    refine x_nnuS rfl rfl ((rg_bd h10).lt (i := 0) (show 0 < 6 by decide)) ?_
    refine x_ldan rfl rfl rfl ((rg_board (W := B3)).lt (i := 0) (show 0 < 6 by decide)) ?_
    refine x_ldan rfl rfl rfl ((rg_bd h10).lt (i := 0) (show 0 < 6 by decide)) ?_
    obtain ⟨o12, h11, hr⟩ := bd_some hr
    obtain ⟨B13, h14, hr⟩ := bd_some hr
    refine x_cW (wc_board (fun H hb hh hH => m_2 hb hh (show a7 + 6 ≤ 1 ∨ 1 + 6 ≤ a7 by have := (ge_bd h10); omega) (fun L hl => by subst hH; exact Rg.far (rg_board (W := B3)) hl (rg_bd h10) (show a7 + 6 ≤ 1 ∨ 1 + 6 ≤ a7 by have := (ge_bd h10); omega)) h11) h14) rfl rfl rfl rfl (am_recv_v ((rg_board (W := B3)).lt (i := 0) (show 0 < 6 by decide)) ((rg_board (W := B3)).at (i := 0) rfl) rfl) (by omega) ?_
    refine x_fg (Lq.n (Lq.n (Lq.n Lq.nil))) ?_
    exact j_51_0_j37 hd hr kr
theorem m_51 {scr : ASc} {B : Wd} {o : Wd} (hr : F_51 B = some o) : RnW scr 3 51 [.ref 13, .ref 1] B (.inl none) o :=
  x_methW (M := am_M51) rfl (show 2 ≤ 3 by decide) (f_51 (Nat.le_refl _) hr rfl)
/-- PebbleProofs.append(IIIII)I -/
def F_80 (B : Wd) (x1 : Int32) (x2 : Int32) (x3 : Int32) (x4 : Int32) (x5 : Int32) : Option ((Int32 ⊕ Nat) × Wd) :=
  (F_63 x1).bind fun v2 =>
  (F_63 x2).bind fun v4 =>
  (F_63 x3).bind fun v6 =>
  (F_63 x4).bind fun v8 =>
  (F_63 x5).bind fun v10 =>
  if (B.inp.length + ((((v2 + v4) + v6) + v8) + v10)) ≤ 400 then
    (F_64 B.inp x1).bind fun o13 =>
    (some (B.w_inp o13)).bind fun B14 =>
    (F_64 B14.inp x2).bind fun o17 =>
    (some (B14.w_inp o17)).bind fun B18 =>
    (F_64 B18.inp x3).bind fun o21 =>
    (some (B18.w_inp o21)).bind fun B22 =>
    (F_64 B22.inp x4).bind fun o25 =>
    (some (B22.w_inp o25)).bind fun B26 =>
    (F_64 B26.inp x5).bind fun o29 =>
    (some (B26.w_inp o29)).bind fun B30 =>
    some (.inl B30.inp.length, B30)
  else
    some (.inr 0, B.thr)
theorem f_80 {d : Nat} (hd : 7 ≤ d) {scr : ASc} {res : ARe} {B : Wd} {x1 : Int32} {x2 : Int32} {x3 : Int32} {x4 : Int32} {x5 : Int32} {o : (Int32 ⊕ Nat) × Wd} (hr : F_80 B x1 x2 x3 x4 x5 = some o) (kr : res = (xI o.1, mk o.2, Wd.kc o.2, Wd.kn o.2)) : Ex d am_M80 scr (0, [some (.ref 0), some (.int x1), some (.int x2), some (.int x3), some (.int x4), some (.int x5), none], [], (mk B), B.kc, B.kn) res := by
  delta F_80 at hr
  refine x_b 1 (S2 := (1, [some (.ref 0), some (.int x1), some (.int x2), some (.int x3), some (.int x4), some (.int x5), none], [.int x1], (mk B), B.kc, B.kn)) rfl ?_
  obtain ⟨v2, h1, hr⟩ := bd_some hr
  refine x_cW (RnW.of0 (m_63 h1) ⟨rfl, rfl⟩) rfl rfl rfl rfl rfl (by omega) ?_
  refine x_b 1 (S2 := (5, [some (.ref 0), some (.int x1), some (.int x2), some (.int x3), some (.int x4), some (.int x5), none], [.int x2, .int v2], (mk B), B.kc, B.kn)) rfl ?_
  obtain ⟨v4, h3, hr⟩ := bd_some hr
  refine x_cW (RnW.of0 (m_63 h3) ⟨rfl, rfl⟩) rfl rfl rfl rfl rfl (by omega) ?_
  refine x_b 2 (S2 := (10, [some (.ref 0), some (.int x1), some (.int x2), some (.int x3), some (.int x4), some (.int x5), none], [.int x3, .int (v2 + v4)], (mk B), B.kc, B.kn)) rfl ?_
  obtain ⟨v6, h5, hr⟩ := bd_some hr
  refine x_cW (RnW.of0 (m_63 h5) ⟨rfl, rfl⟩) rfl rfl rfl rfl rfl (by omega) ?_
  refine x_b 2 (S2 := (16, [some (.ref 0), some (.int x1), some (.int x2), some (.int x3), some (.int x4), some (.int x5), none], [.int x4, .int ((v2 + v4) + v6)], (mk B), B.kc, B.kn)) rfl ?_
  obtain ⟨v8, h7, hr⟩ := bd_some hr
  refine x_cW (RnW.of0 (m_63 h7) ⟨rfl, rfl⟩) rfl rfl rfl rfl rfl (by omega) ?_
  refine x_b 2 (S2 := (22, [some (.ref 0), some (.int x1), some (.int x2), some (.int x3), some (.int x4), some (.int x5), none], [.int x5, .int (((v2 + v4) + v6) + v8)], (mk B), B.kc, B.kn)) rfl ?_
  obtain ⟨v10, h9, hr⟩ := bd_some hr
  refine x_cW (RnW.of0 (m_63 h9) ⟨rfl, rfl⟩) rfl rfl rfl rfl rfl (by omega) ?_
  refine x_b 2 (S2 := (28, [some (.ref 0), some (.int x1), some (.int x2), some (.int x3), some (.int x4), some (.int x5), some (.int ((((v2 + v4) + v6) + v8) + v10))], [], (mk B), B.kc, B.kn)) rfl ?_
  refine x_ldan rfl rfl rfl ((rg_pp (W := B)).lt (i := 0) (show 0 < 1 by decide)) ?_
  refine x_getf rfl rfl ((rg_pp (W := B)).lt (i := 0) (show 0 < 1 by decide)) ((rg_pp (W := B)).at (i := 0) rfl) rfl ?_
  refine x_getf rfl rfl ((rg_inp (W := B)).lt (i := 0) (show 0 < 8 by decide)) ((rg_inp (W := B)).at (i := 0) rfl) rfl ?_
  refine x_b 3 (S2 := (41, [some (.ref 0), some (.int x1), some (.int x2), some (.int x3), some (.int x4), some (.int x5), some (.int ((((v2 + v4) + v6) + v8) + v10))], [.int 400, .int (B.inp.length + ((((v2 + v4) + v6) + v8) + v10))], (mk B), B.kc, B.kn)) rfl ?_
  rcases ite_some hr with ⟨h11, hr⟩ | ⟨h11, hr⟩
  · refine x_ct rfl rfl (decide_eq_true h11) ?_
    refine x_ldan rfl rfl rfl ((rg_pp (W := B)).lt (i := 0) (show 0 < 1 by decide)) ?_
    refine x_getf rfl rfl ((rg_pp (W := B)).lt (i := 0) (show 0 < 1 by decide)) ((rg_pp (W := B)).at (i := 0) rfl) rfl ?_
    refine x_b 1 (S2 := (59, [some (.ref 0), some (.int x1), some (.int x2), some (.int x3), some (.int x4), some (.int x5), some (.int ((((v2 + v4) + v6) + v8) + v10))], [.int x1, .ref 15], (mk B), B.kc, B.kn)) rfl ?_
    obtain ⟨o13, h12, hr⟩ := bd_some hr
    obtain ⟨B14, h15, hr⟩ := bd_some hr
    refine x_cW (wc_inp (fun H hb hh hH => m_64 hb hh h12) h15) rfl rfl rfl rfl (am_recv_v ((rg_inp (W := B)).lt (i := 0) (show 0 < 8 by decide)) ((rg_inp (W := B)).at (i := 0) rfl) rfl) (by omega) ?_
    refine x_ldan rfl rfl rfl ((rg_pp (W := B14)).lt (i := 0) (show 0 < 1 by decide)) ?_
    refine x_getf rfl rfl ((rg_pp (W := B14)).lt (i := 0) (show 0 < 1 by decide)) ((rg_pp (W := B14)).at (i := 0) rfl) rfl ?_
    refine x_b 1 (S2 := (67, [some (.ref 0), some (.int x1), some (.int x2), some (.int x3), some (.int x4), some (.int x5), some (.int ((((v2 + v4) + v6) + v8) + v10))], [.int x2, .ref 15], (mk B14), B14.kc, B14.kn)) rfl ?_
    obtain ⟨o17, h16, hr⟩ := bd_some hr
    obtain ⟨B18, h19, hr⟩ := bd_some hr
    refine x_cW (wc_inp (fun H hb hh hH => m_64 hb hh h16) h19) rfl rfl rfl rfl (am_recv_v ((rg_inp (W := B14)).lt (i := 0) (show 0 < 8 by decide)) ((rg_inp (W := B14)).at (i := 0) rfl) rfl) (by omega) ?_
    refine x_ldan rfl rfl rfl ((rg_pp (W := B18)).lt (i := 0) (show 0 < 1 by decide)) ?_
    refine x_getf rfl rfl ((rg_pp (W := B18)).lt (i := 0) (show 0 < 1 by decide)) ((rg_pp (W := B18)).at (i := 0) rfl) rfl ?_
    refine x_b 1 (S2 := (75, [some (.ref 0), some (.int x1), some (.int x2), some (.int x3), some (.int x4), some (.int x5), some (.int ((((v2 + v4) + v6) + v8) + v10))], [.int x3, .ref 15], (mk B18), B18.kc, B18.kn)) rfl ?_
    obtain ⟨o21, h20, hr⟩ := bd_some hr
    obtain ⟨B22, h23, hr⟩ := bd_some hr
    refine x_cW (wc_inp (fun H hb hh hH => m_64 hb hh h20) h23) rfl rfl rfl rfl (am_recv_v ((rg_inp (W := B18)).lt (i := 0) (show 0 < 8 by decide)) ((rg_inp (W := B18)).at (i := 0) rfl) rfl) (by omega) ?_
    refine x_ldan rfl rfl rfl ((rg_pp (W := B22)).lt (i := 0) (show 0 < 1 by decide)) ?_
    refine x_getf rfl rfl ((rg_pp (W := B22)).lt (i := 0) (show 0 < 1 by decide)) ((rg_pp (W := B22)).at (i := 0) rfl) rfl ?_
    refine x_b 1 (S2 := (84, [some (.ref 0), some (.int x1), some (.int x2), some (.int x3), some (.int x4), some (.int x5), some (.int ((((v2 + v4) + v6) + v8) + v10))], [.int x4, .ref 15], (mk B22), B22.kc, B22.kn)) rfl ?_
    obtain ⟨o25, h24, hr⟩ := bd_some hr
    obtain ⟨B26, h27, hr⟩ := bd_some hr
    refine x_cW (wc_inp (fun H hb hh hH => m_64 hb hh h24) h27) rfl rfl rfl rfl (am_recv_v ((rg_inp (W := B22)).lt (i := 0) (show 0 < 8 by decide)) ((rg_inp (W := B22)).at (i := 0) rfl) rfl) (by omega) ?_
    refine x_ldan rfl rfl rfl ((rg_pp (W := B26)).lt (i := 0) (show 0 < 1 by decide)) ?_
    refine x_getf rfl rfl ((rg_pp (W := B26)).lt (i := 0) (show 0 < 1 by decide)) ((rg_pp (W := B26)).at (i := 0) rfl) rfl ?_
    refine x_b 1 (S2 := (93, [some (.ref 0), some (.int x1), some (.int x2), some (.int x3), some (.int x4), some (.int x5), some (.int ((((v2 + v4) + v6) + v8) + v10))], [.int x5, .ref 15], (mk B26), B26.kc, B26.kn)) rfl ?_
    obtain ⟨o29, h28, hr⟩ := bd_some hr
    obtain ⟨B30, h31, hr⟩ := bd_some hr
    refine x_cW (wc_inp (fun H hb hh hH => m_64 hb hh h28) h31) rfl rfl rfl rfl (am_recv_v ((rg_inp (W := B26)).lt (i := 0) (show 0 < 8 by decide)) ((rg_inp (W := B26)).at (i := 0) rfl) rfl) (by omega) ?_
    refine x_ldan rfl rfl rfl ((rg_pp (W := B30)).lt (i := 0) (show 0 < 1 by decide)) ?_
    refine x_getf rfl rfl ((rg_pp (W := B30)).lt (i := 0) (show 0 < 1 by decide)) ((rg_pp (W := B30)).at (i := 0) rfl) rfl ?_
    refine x_getf rfl rfl ((rg_inp (W := B30)).lt (i := 0) (show 0 < 8 by decide)) ((rg_inp (W := B30)).at (i := 0) rfl) rfl ?_
    cases hr
    rw [kr]
    exact x_ret rfl rfl am_ret_i
  · refine x_cf rfl rfl (decide_eq_false h11) ?_
    cases hr
    rw [kr]
    exact x_thr rfl (by decide) (by omega) (by decide) rfl
theorem m_80 {scr : ASc} {B : Wd} {x1 : Int32} {x2 : Int32} {x3 : Int32} {x4 : Int32} {x5 : Int32} {o : (Int32 ⊕ Nat) × Wd} (hr : F_80 B x1 x2 x3 x4 x5 = some o) : RnW scr 8 80 [.ref 0, .int x1, .int x2, .int x3, .int x4, .int x5] B (xI o.1) o.2 :=
  x_methW (M := am_M80) rfl (show 6 ≤ 7 by decide) (f_80 (Nat.le_refl _) hr rfl)
def J_81_0_j15 (B : Wd) : Option ((Int32 ⊕ Nat) × Wd) :=
  some (.inr 1, B.thr)
theorem j_81_0_j15 {d : Nat} (hd : 7 ≤ d) {scr : ASc} {res : ARe} {B : Wd} {o : (Int32 ⊕ Nat) × Wd} (hr : J_81_0_j15 B = some o) (kr : res = (xI o.1, mk o.2, Wd.kc o.2, Wd.kn o.2)) : Ex d am_M81 scr (15, [none, none], [], (mk B), B.kc, B.kn) res := by
  delta J_81_0_j15 at hr
  cases hr
  rw [kr]
  exact x_thr rfl (by decide) (by omega) (by decide) rfl
/-- PebbleProofs.truncate(I)I -/
def F_81 (B : Wd) (x1 : Int32) : Option ((Int32 ⊕ Nat) × Wd) :=
  if x1 < 0 then
    J_81_0_j15 B
  else
    if x1 ≤ B.inp.length then
      (some (B.inp.w_length x1)).bind fun o3 =>
      (some (B.w_inp o3)).bind fun B5 =>
      some (.inl x1, B5)
    else
      J_81_0_j15 B
theorem f_81 {d : Nat} (hd : 7 ≤ d) {scr : ASc} {res : ARe} {B : Wd} {x1 : Int32} {o : (Int32 ⊕ Nat) × Wd} (hr : F_81 B x1 = some o) (kr : res = (xI o.1, mk o.2, Wd.kc o.2, Wd.kn o.2)) : Ex d am_M81 scr (0, [some (.ref 0), some (.int x1)], [], (mk B), B.kc, B.kn) res := by
  delta F_81 at hr
  refine x_b 1 (S2 := (1, [some (.ref 0), some (.int x1)], [.int x1], (mk B), B.kc, B.kn)) rfl ?_
  rcases ite_some hr with ⟨h1, hr⟩ | ⟨h1, hr⟩
  · refine x_zt rfl rfl (decide_eq_true h1) ?_
    refine x_fg (Lq.n (Lq.n Lq.nil)) ?_
    exact j_81_0_j15 hd hr kr
  · refine x_zf rfl rfl (decide_eq_false h1) ?_
    refine x_b 1 (S2 := (5, [some (.ref 0), some (.int x1)], [.int x1], (mk B), B.kc, B.kn)) rfl ?_
    refine x_ldan rfl rfl rfl ((rg_pp (W := B)).lt (i := 0) (show 0 < 1 by decide)) ?_
    refine x_getf rfl rfl ((rg_pp (W := B)).lt (i := 0) (show 0 < 1 by decide)) ((rg_pp (W := B)).at (i := 0) rfl) rfl ?_
    refine x_getf rfl rfl ((rg_inp (W := B)).lt (i := 0) (show 0 < 8 by decide)) ((rg_inp (W := B)).at (i := 0) rfl) rfl ?_
    rcases ite_some hr with ⟨h2, hr⟩ | ⟨h2, hr⟩
    · refine x_ct rfl rfl (decide_eq_true h2) ?_
      refine x_ldan rfl rfl rfl ((rg_pp (W := B)).lt (i := 0) (show 0 < 1 by decide)) ?_
      refine x_getf rfl rfl ((rg_pp (W := B)).lt (i := 0) (show 0 < 1 by decide)) ((rg_pp (W := B)).at (i := 0) rfl) rfl ?_
      refine x_b 1 (S2 := (30, [some (.ref 0), some (.int x1)], [.int x1, .ref 15], (mk B), B.kc, B.kn)) rfl ?_
      obtain ⟨o3, h4, hr⟩ := bd_some hr
      obtain ⟨B5, h6, hr⟩ := bd_some hr
      refine x_putf (H := (mk B5)) rfl rfl ((rg_inp (W := B)).lt (i := 0) (show 0 < 8 by decide)) ((rg_inp (W := B)).at (i := 0) rfl) ⟨(show 1 < 7 by decide), rfl, rfl, nofun⟩ (ws_inp (i := 0) (Tx.s_length rfl h4) h6 (by decide)) ?_
      refine x_kk (kk_inp h6) ?_
      refine x_b 1 (S2 := (34, [some (.ref 0), some (.int x1)], [.int x1], (mk B5), B5.kc, B5.kn)) rfl ?_
      cases hr
      rw [kr]
      exact x_ret rfl rfl am_ret_i
    · refine x_cf rfl rfl (decide_eq_false h2) ?_
      refine x_fg (Lq.n (Lq.n Lq.nil)) ?_
      exact j_81_0_j15 hd hr kr
theorem m_81 {scr : ASc} {B : Wd} {x1 : Int32} {o : (Int32 ⊕ Nat) × Wd} (hr : F_81 B x1 = some o) : RnW scr 8 81 [.ref 0, .int x1] B (xI o.1) o.2 :=
  x_methW (M := am_M81) rfl (show 2 ≤ 2 by decide) (f_81 (Nat.le_refl _) hr rfl)
/-- PebbleProofs.errorPosition()I -/
def F_82 (B : Wd) : Option (Int32 × Wd) :=
  (F_72 B.inp).bind fun (v3, o2) =>
  (some (B.w_inp o2)).bind fun B4 =>
  some (v3, B4)
theorem f_82 {d : Nat} (hd : 9 ≤ d) {scr : ASc} {res : ARe} {B : Wd} {o : Int32 × Wd} (hr : F_82 B = some o) (kr : res = (.inl (some (.int o.1)), mk o.2, Wd.kc o.2, Wd.kn o.2)) : Ex d am_M82 scr (0, [some (.ref 0)], [], (mk B), B.kc, B.kn) res := by
  delta F_82 at hr
  refine x_ldan rfl rfl rfl ((rg_pp (W := B)).lt (i := 0) (show 0 < 1 by decide)) ?_
  refine x_getf rfl rfl ((rg_pp (W := B)).lt (i := 0) (show 0 < 1 by decide)) ((rg_pp (W := B)).at (i := 0) rfl) rfl ?_
  obtain ⟨⟨v3, o2⟩, h1, hr⟩ := bd_some hr
  obtain ⟨B4, h5, hr⟩ := bd_some hr
  refine x_cW (wc_inp (fun H hb hh hH => m_72 hb hh h1) h5) rfl rfl rfl rfl (am_recv_v ((rg_inp (W := B)).lt (i := 0) (show 0 < 8 by decide)) ((rg_inp (W := B)).at (i := 0) rfl) rfl) (by omega) ?_
  cases hr
  rw [kr]
  exact x_ret rfl rfl am_ret_i
theorem m_82 {scr : ASc} {B : Wd} {o : Int32 × Wd} (hr : F_82 B = some o) : RnW scr 10 82 [.ref 0] B (.inl (some (.int o.1))) o.2 :=
  x_methW (M := am_M82) rfl (show 1 ≤ 1 by decide) (f_82 (Nat.le_refl _) hr rfl)
/-- PebbleProofs.load()I -/
def F_83 (B : Wd) : Option ((Int32 ⊕ Nat) × Wd) :=
  (F_72 B.inp).bind fun (v3, o2) =>
  (some (B.w_inp o2)).bind fun B4 =>
  if v3 = (-1) then
    (F_2 B4.board B4.inp.draft).bind fun o8 =>
    (some (B4.w_board o8)).bind fun B9 =>
    (F_13 B9.board).bind fun o12 =>
    (some (B9.w_board o12)).bind fun B13 =>
    (F_49 B13).bind fun B16 =>
    (some (B16.pp.w_hasSaved 0)).bind fun o17 =>
    (some (B16.w_pp o17)).bind fun B19 =>
    (some (B19.pp.w_refusal 0)).bind fun o21 =>
    (some (B19.w_pp o21)).bind fun B23 =>
    (some (B23.inp.w_length 0)).bind fun o25 =>
    (some (B23.w_inp o25)).bind fun B27 =>
    some (.inl B27.board.vertices, B27)
  else
    some (.inr 1, B4.thr)
theorem f_83 {d : Nat} (hd : 9 ≤ d) {scr : ASc} {res : ARe} {B : Wd} {o : (Int32 ⊕ Nat) × Wd} (hr : F_83 B = some o) (kr : res = (xI o.1, mk o.2, Wd.kc o.2, Wd.kn o.2)) : Ex d am_M83 scr (0, [some (.ref 0)], [], (mk B), B.kc, B.kn) res := by
  delta F_83 at hr
  refine x_ldan rfl rfl rfl ((rg_pp (W := B)).lt (i := 0) (show 0 < 1 by decide)) ?_
  refine x_getf rfl rfl ((rg_pp (W := B)).lt (i := 0) (show 0 < 1 by decide)) ((rg_pp (W := B)).at (i := 0) rfl) rfl ?_
  obtain ⟨⟨v3, o2⟩, h1, hr⟩ := bd_some hr
  obtain ⟨B4, h5, hr⟩ := bd_some hr
  refine x_cW (wc_inp (fun H hb hh hH => m_72 hb hh h1) h5) rfl rfl rfl rfl (am_recv_v ((rg_inp (W := B)).lt (i := 0) (show 0 < 8 by decide)) ((rg_inp (W := B)).at (i := 0) rfl) rfl) (by omega) ?_
  refine x_b 1 (S2 := (8, [some (.ref 0)], [.int (-1), .int v3], (mk B4), B4.kc, B4.kn)) rfl ?_
  rcases ite_some hr with ⟨h6, hr⟩ | ⟨h6, hr⟩
  · refine x_ct rfl rfl (decide_eq_true h6) ?_
    refine x_ldan rfl rfl rfl ((rg_pp (W := B4)).lt (i := 0) (show 0 < 1 by decide)) ?_
    refine x_getf rfl rfl ((rg_pp (W := B4)).lt (i := 0) (show 0 < 1 by decide)) ((rg_pp (W := B4)).at (i := 0) rfl) rfl ?_
    refine x_ldan rfl rfl rfl ((rg_pp (W := B4)).lt (i := 0) (show 0 < 1 by decide)) ?_
    refine x_getf rfl rfl ((rg_pp (W := B4)).lt (i := 0) (show 0 < 1 by decide)) ((rg_pp (W := B4)).at (i := 0) rfl) rfl ?_
    refine x_getf rfl rfl ((rg_inp (W := B4)).lt (i := 0) (show 0 < 8 by decide)) ((rg_inp (W := B4)).at (i := 0) rfl) rfl ?_
    obtain ⟨o8, h7, hr⟩ := bd_some hr
    obtain ⟨B9, h10, hr⟩ := bd_some hr
    refine x_cW (wc_board (fun H hb hh hH => m_2 hb hh (show (15 + 2) + 6 ≤ 1 ∨ 1 + 6 ≤ (15 + 2) by decide) (fun L hl => by subst hH; exact Rg.far (rg_board (W := B4)) hl (rg_draft (rg_inp (W := B4))) (show (15 + 2) + 6 ≤ 1 ∨ 1 + 6 ≤ (15 + 2) by decide)) h7) h10) rfl rfl rfl rfl (am_recv_v ((rg_board (W := B4)).lt (i := 0) (show 0 < 6 by decide)) ((rg_board (W := B4)).at (i := 0) rfl) rfl) (by omega) ?_
    refine x_ldan rfl rfl rfl ((rg_pp (W := B9)).lt (i := 0) (show 0 < 1 by decide)) ?_
    refine x_getf rfl rfl ((rg_pp (W := B9)).lt (i := 0) (show 0 < 1 by decide)) ((rg_pp (W := B9)).at (i := 0) rfl) rfl ?_
    obtain ⟨o12, h11, hr⟩ := bd_some hr
    obtain ⟨B13, h14, hr⟩ := bd_some hr
    refine x_cW (wc_board (fun H hb hh hH => m_13 hb hh h11) h14) rfl rfl rfl rfl (am_recv_v ((rg_board (W := B9)).lt (i := 0) (show 0 < 6 by decide)) ((rg_board (W := B9)).at (i := 0) rfl) rfl) (by omega) ?_
    refine x_ldan rfl rfl rfl ((rg_pp (W := B13)).lt (i := 0) (show 0 < 1 by decide)) ?_
    refine x_getf rfl rfl ((rg_pp (W := B13)).lt (i := 0) (show 0 < 1 by decide)) ((rg_pp (W := B13)).at (i := 0) rfl) rfl ?_
    obtain ⟨B16, h15, hr⟩ := bd_some hr
    refine x_cW (m_49 h15) rfl rfl rfl rfl (am_recv_v ((rg_hist (W := B13)).lt (i := 0) (show 0 < 2 by decide)) ((rg_hist (W := B13)).at (i := 0) rfl) rfl) (by omega) ?_
    refine x_ldan rfl rfl rfl ((rg_pp (W := B16)).lt (i := 0) (show 0 < 1 by decide)) ?_
    refine x_b 1 (S2 := (51, [some (.ref 0)], [.int 0, .ref 0], (mk B16), B16.kc, B16.kn)) rfl ?_
    obtain ⟨o17, h18, hr⟩ := bd_some hr
    obtain ⟨B19, h20, hr⟩ := bd_some hr
    refine x_putf (H := (mk B19)) rfl rfl ((rg_pp (W := B16)).lt (i := 0) (show 0 < 1 by decide)) ((rg_pp (W := B16)).at (i := 0) rfl) ⟨(show 2 < 9 by decide), rfl, rfl, nofun⟩ (ws_pp (i := 0) (PPt.s_hasSaved rfl h18) h20 (by decide)) ?_
    refine x_kk (kk_pp h20) ?_
    refine x_ldan rfl rfl rfl ((rg_pp (W := B19)).lt (i := 0) (show 0 < 1 by decide)) ?_
    refine x_b 1 (S2 := (56, [some (.ref 0)], [.int 0, .ref 0], (mk B19), B19.kc, B19.kn)) rfl ?_
    obtain ⟨o21, h22, hr⟩ := bd_some hr
    obtain ⟨B23, h24, hr⟩ := bd_some hr
    refine x_putf (H := (mk B23)) rfl rfl ((rg_pp (W := B19)).lt (i := 0) (show 0 < 1 by decide)) ((rg_pp (W := B19)).at (i := 0) rfl) ⟨(show 8 < 9 by decide), rfl, rfl, nofun⟩ (ws_pp (i := 0) (PPt.s_refusal rfl h22) h24 (by decide)) ?_
    refine x_kk (kk_pp h24) ?_
    refine x_ldan rfl rfl rfl ((rg_pp (W := B23)).lt (i := 0) (show 0 < 1 by decide)) ?_
    refine x_getf rfl rfl ((rg_pp (W := B23)).lt (i := 0) (show 0 < 1 by decide)) ((rg_pp (W := B23)).at (i := 0) rfl) rfl ?_
    refine x_b 1 (S2 := (64, [some (.ref 0)], [.int 0, .ref 15], (mk B23), B23.kc, B23.kn)) rfl ?_
    obtain ⟨o25, h26, hr⟩ := bd_some hr
    obtain ⟨B27, h28, hr⟩ := bd_some hr
    refine x_putf (H := (mk B27)) rfl rfl ((rg_inp (W := B23)).lt (i := 0) (show 0 < 8 by decide)) ((rg_inp (W := B23)).at (i := 0) rfl) ⟨(show 1 < 7 by decide), rfl, rfl, nofun⟩ (ws_inp (i := 0) (Tx.s_length rfl h26) h28 (by decide)) ?_
    refine x_kk (kk_inp h28) ?_
    refine x_ldan rfl rfl rfl ((rg_pp (W := B27)).lt (i := 0) (show 0 < 1 by decide)) ?_
    refine x_getf rfl rfl ((rg_pp (W := B27)).lt (i := 0) (show 0 < 1 by decide)) ((rg_pp (W := B27)).at (i := 0) rfl) rfl ?_
    refine x_getf rfl rfl ((rg_board (W := B27)).lt (i := 0) (show 0 < 6 by decide)) ((rg_board (W := B27)).at (i := 0) rfl) rfl ?_
    cases hr
    rw [kr]
    exact x_ret rfl rfl am_ret_i
  · refine x_cf rfl rfl (decide_eq_false h6) ?_
    cases hr
    rw [kr]
    exact x_thr rfl (by decide) (by omega) (by decide) rfl
theorem m_83 {scr : ASc} {B : Wd} {o : (Int32 ⊕ Nat) × Wd} (hr : F_83 B = some o) : RnW scr 10 83 [.ref 0] B (xI o.1) o.2 :=
  x_methW (M := am_M83) rfl (show 1 ≤ 1 by decide) (f_83 (Nat.le_refl _) hr rfl)
def J_124_0_j15 (B : Wd) : Option ((Unit ⊕ Nat) × Wd) :=
  some (.inr 2, B.thr)
theorem j_124_0_j15 {d : Nat} (hd : 7 ≤ d) {scr : ASc} {res : ARe} {B : Wd} {o : (Unit ⊕ Nat) × Wd} (hr : J_124_0_j15 B = some o) (kr : res = (xU o.1, mk o.2, Wd.kc o.2, Wd.kn o.2)) : Ex d am_M124 scr (15, [none, none], [], (mk B), B.kc, B.kn) res := by
  delta J_124_0_j15 at hr
  cases hr
  rw [kr]
  exact x_thr rfl (by decide) (by omega) (by decide) rfl
/-- PebbleProofs.needVertex(I)V -/
def F_124 (B : Wd) (x1 : Int32) : Option ((Unit ⊕ Nat) × Wd) :=
  if x1 < 0 then
    J_124_0_j15 B
  else
    if x1 < B.board.vertices then
      some (.inl (), B)
    else
      J_124_0_j15 B
theorem f_124 {d : Nat} (hd : 7 ≤ d) {scr : ASc} {res : ARe} {B : Wd} {x1 : Int32} {o : (Unit ⊕ Nat) × Wd} (hr : F_124 B x1 = some o) (kr : res = (xU o.1, mk o.2, Wd.kc o.2, Wd.kn o.2)) : Ex d am_M124 scr (0, [some (.ref 0), some (.int x1)], [], (mk B), B.kc, B.kn) res := by
  delta F_124 at hr
  refine x_b 1 (S2 := (1, [some (.ref 0), some (.int x1)], [.int x1], (mk B), B.kc, B.kn)) rfl ?_
  rcases ite_some hr with ⟨h1, hr⟩ | ⟨h1, hr⟩
  · refine x_zt rfl rfl (decide_eq_true h1) ?_
    refine x_fg (Lq.n (Lq.n Lq.nil)) ?_
    exact j_124_0_j15 hd hr kr
  · refine x_zf rfl rfl (decide_eq_false h1) ?_
    refine x_b 1 (S2 := (5, [some (.ref 0), some (.int x1)], [.int x1], (mk B), B.kc, B.kn)) rfl ?_
    refine x_ldan rfl rfl rfl ((rg_pp (W := B)).lt (i := 0) (show 0 < 1 by decide)) ?_
    refine x_getf rfl rfl ((rg_pp (W := B)).lt (i := 0) (show 0 < 1 by decide)) ((rg_pp (W := B)).at (i := 0) rfl) rfl ?_
    refine x_getf rfl rfl ((rg_board (W := B)).lt (i := 0) (show 0 < 6 by decide)) ((rg_board (W := B)).at (i := 0) rfl) rfl ?_
    rcases ite_some hr with ⟨h2, hr⟩ | ⟨h2, hr⟩
    · refine x_ct rfl rfl (decide_eq_true h2) ?_
      cases hr
      rw [kr]
      exact x_ret rfl rfl rfl
    · refine x_cf rfl rfl (decide_eq_false h2) ?_
      refine x_fg (Lq.n (Lq.n Lq.nil)) ?_
      exact j_124_0_j15 hd hr kr
theorem m_124 {scr : ASc} {B : Wd} {x1 : Int32} {o : (Unit ⊕ Nat) × Wd} (hr : F_124 B x1 = some o) : RnW scr 8 124 [.ref 0, .int x1] B (xU o.1) o.2 :=
  x_methW (M := am_M124) rfl (show 2 ≤ 2 by decide) (f_124 (Nat.le_refl _) hr rfl)
/-- PebbleProofs.needTwoVertices(II)V -/
def F_125 (B : Wd) (x1 : Int32) (x2 : Int32) : Option ((Unit ⊕ Nat) × Wd) :=
  (F_124 B x1).bind fun (r2, B3) =>
  xq r2 (fun X4 =>
    some (.inr X4, B3)) fun u5 =>
  (F_124 B3 x2).bind fun (r7, B8) =>
  xq r7 (fun X9 =>
    some (.inr X9, B8)) fun u10 =>
  if ¬ x1 = x2 then
    some (.inl (), B8)
  else
    some (.inr 1, B8.thr)
theorem f_125 {d : Nat} (hd : 8 ≤ d) {scr : ASc} {res : ARe} {B : Wd} {x1 : Int32} {x2 : Int32} {o : (Unit ⊕ Nat) × Wd} (hr : F_125 B x1 x2 = some o) (kr : res = (xU o.1, mk o.2, Wd.kc o.2, Wd.kn o.2)) : Ex d am_M125 scr (0, [some (.ref 0), some (.int x1), some (.int x2)], [], (mk B), B.kc, B.kn) res := by
  delta F_125 at hr
  refine x_ldan rfl rfl rfl ((rg_pp (W := B)).lt (i := 0) (show 0 < 1 by decide)) ?_
  refine x_b 1 (S2 := (2, [some (.ref 0), some (.int x1), some (.int x2)], [.int x1, .ref 0], (mk B), B.kc, B.kn)) rfl ?_
  obtain ⟨⟨r2, B3⟩, h1, hr⟩ := bd_some hr
  have hr9 := xq_some hr
  clear hr
  rcases hr9 with ⟨X4, rfl, hr⟩ | ⟨u5, rfl, hr⟩
  · cases hr
    rw [kr]
    exact x_cX (m_124 h1) rfl rfl rfl rfl (am_recv_v ((rg_pp (W := B)).lt (i := 0) (show 0 < 1 by decide)) ((rg_pp (W := B)).at (i := 0) rfl) rfl) (by omega) rfl
  refine x_cW (m_124 h1) rfl rfl rfl rfl (am_recv_v ((rg_pp (W := B)).lt (i := 0) (show 0 < 1 by decide)) ((rg_pp (W := B)).at (i := 0) rfl) rfl) (by omega) ?_
  refine x_ldan rfl rfl rfl ((rg_pp (W := B3)).lt (i := 0) (show 0 < 1 by decide)) ?_
  refine x_b 1 (S2 := (7, [some (.ref 0), some (.int x1), some (.int x2)], [.int x2, .ref 0], (mk B3), B3.kc, B3.kn)) rfl ?_
  obtain ⟨⟨r7, B8⟩, h6, hr⟩ := bd_some hr
  have hr9 := xq_some hr
  clear hr
  rcases hr9 with ⟨X9, rfl, hr⟩ | ⟨u10, rfl, hr⟩
  · cases hr
    rw [kr]
    exact x_cX (m_124 h6) rfl rfl rfl rfl (am_recv_v ((rg_pp (W := B3)).lt (i := 0) (show 0 < 1 by decide)) ((rg_pp (W := B3)).at (i := 0) rfl) rfl) (by omega) rfl
  refine x_cW (m_124 h6) rfl rfl rfl rfl (am_recv_v ((rg_pp (W := B3)).lt (i := 0) (show 0 < 1 by decide)) ((rg_pp (W := B3)).at (i := 0) rfl) rfl) (by omega) ?_
  refine x_b 2 (S2 := (12, [some (.ref 0), some (.int x1), some (.int x2)], [.int x2, .int x1], (mk B8), B8.kc, B8.kn)) rfl ?_
  rcases ite_some hr with ⟨h11, hr⟩ | ⟨h11, hr⟩
  · refine x_ct rfl rfl (decide_eq_true h11) ?_
    cases hr
    rw [kr]
    exact x_ret rfl rfl rfl
  · refine x_cf rfl rfl (decide_eq_false h11) ?_
    cases hr
    rw [kr]
    exact x_thr rfl (by decide) (by omega) (by decide) rfl
theorem m_125 {scr : ASc} {B : Wd} {x1 : Int32} {x2 : Int32} {o : (Unit ⊕ Nat) × Wd} (hr : F_125 B x1 x2 = some o) : RnW scr 9 125 [.ref 0, .int x1, .int x2] B (xU o.1) o.2 :=
  x_methW (M := am_M125) rfl (show 3 ≤ 3 by decide) (f_125 (Nat.le_refl _) hr rfl)
/-- PebbleProofs.refuse(I)V -/
def F_128 (B : Wd) (x1 : Int32) : Option ((Unit ⊕ Nat) × Wd) :=
  (some (B.pp.w_refusal x1)).bind fun o1 =>
  (some (B.w_pp o1)).bind fun B3 =>
  some (.inr 0, B3.thr)
theorem f_128 {d : Nat} (hd : 7 ≤ d) {scr : ASc} {res : ARe} {B : Wd} {x1 : Int32} {o : (Unit ⊕ Nat) × Wd} (hr : F_128 B x1 = some o) (kr : res = (xU o.1, mk o.2, Wd.kc o.2, Wd.kn o.2)) : Ex d am_M128 scr (0, [some (.ref 0), some (.int x1)], [], (mk B), B.kc, B.kn) res := by
  delta F_128 at hr
  refine x_ldan rfl rfl rfl ((rg_pp (W := B)).lt (i := 0) (show 0 < 1 by decide)) ?_
  refine x_b 1 (S2 := (2, [some (.ref 0), some (.int x1)], [.int x1, .ref 0], (mk B), B.kc, B.kn)) rfl ?_
  obtain ⟨o1, h2, hr⟩ := bd_some hr
  obtain ⟨B3, h4, hr⟩ := bd_some hr
  refine x_putf (H := (mk B3)) rfl rfl ((rg_pp (W := B)).lt (i := 0) (show 0 < 1 by decide)) ((rg_pp (W := B)).at (i := 0) rfl) ⟨(show 8 < 9 by decide), rfl, rfl, nofun⟩ (ws_pp (i := 0) (PPt.s_refusal rfl h2) h4 (by decide)) ?_
  refine x_kk (kk_pp h4) ?_
  cases hr
  rw [kr]
  exact x_thr rfl (by decide) (by omega) (by decide) rfl
theorem m_128 {scr : ASc} {B : Wd} {x1 : Int32} {o : (Unit ⊕ Nat) × Wd} (hr : F_128 B x1 = some o) : RnW scr 8 128 [.ref 0, .int x1] B (xU o.1) o.2 :=
  x_methW (M := am_M128) rfl (show 2 ≤ 2 by decide) (f_128 (Nat.le_refl _) hr rfl)
def J_84_0_j23 (B : Wd) (x1 : Int32) (x2 : Int32) : Option ((Int32 ⊕ Nat) × Wd) :=
  (F_50 B).bind fun B10 =>
  (F_4 B10.board x1 x2).bind fun o12 =>
  (some (B10.w_board o12)).bind fun B13 =>
  (F_13 B13.board).bind fun o16 =>
  (some (B13.w_board o16)).bind fun B17 =>
  (F_7 B17.board).bind fun v20 =>
  some (.inl v20, B17)
theorem j_84_0_j23 {d : Nat} (hd : 9 ≤ d) {scr : ASc} {res : ARe} {B : Wd} {x1 : Int32} {x2 : Int32} {o : (Int32 ⊕ Nat) × Wd} (hr : J_84_0_j23 B x1 x2 = some o) (kr : res = (xI o.1, mk o.2, Wd.kc o.2, Wd.kn o.2)) : Ex d am_M84 scr (23, [some (.ref 0), some (.int x1), some (.int x2)], [], (mk B), B.kc, B.kn) res := by
  delta J_84_0_j23 at hr
  refine x_ldan rfl rfl rfl ((rg_pp (W := B)).lt (i := 0) (show 0 < 1 by decide)) ?_
  refine x_getf rfl rfl ((rg_pp (W := B)).lt (i := 0) (show 0 < 1 by decide)) ((rg_pp (W := B)).at (i := 0) rfl) rfl ?_
  refine x_ldan rfl rfl rfl ((rg_pp (W := B)).lt (i := 0) (show 0 < 1 by decide)) ?_
  refine x_getf rfl rfl ((rg_pp (W := B)).lt (i := 0) (show 0 < 1 by decide)) ((rg_pp (W := B)).at (i := 0) rfl) rfl ?_
  obtain ⟨B10, h9, hr⟩ := bd_some hr
  refine x_cW (m_50 h9) rfl rfl rfl rfl (am_recv_v ((rg_hist (W := B)).lt (i := 0) (show 0 < 2 by decide)) ((rg_hist (W := B)).at (i := 0) rfl) rfl) (by omega) ?_
  refine x_ldan rfl rfl rfl ((rg_pp (W := B10)).lt (i := 0) (show 0 < 1 by decide)) ?_
  refine x_getf rfl rfl ((rg_pp (W := B10)).lt (i := 0) (show 0 < 1 by decide)) ((rg_pp (W := B10)).at (i := 0) rfl) rfl ?_
  refine x_b 2 (S2 := (40, [some (.ref 0), some (.int x1), some (.int x2)], [.int x2, .int x1, .ref 1], (mk B10), B10.kc, B10.kn)) rfl ?_
  obtain ⟨o12, h11, hr⟩ := bd_some hr
  obtain ⟨B13, h14, hr⟩ := bd_some hr
  refine x_cW (wc_board (fun H hb hh hH => m_4 hb hh h11) h14) rfl rfl rfl rfl (am_recv_v ((rg_board (W := B10)).lt (i := 0) (show 0 < 6 by decide)) ((rg_board (W := B10)).at (i := 0) rfl) rfl) (by omega) ?_
  refine x_ldan rfl rfl rfl ((rg_pp (W := B13)).lt (i := 0) (show 0 < 1 by decide)) ?_
  refine x_getf rfl rfl ((rg_pp (W := B13)).lt (i := 0) (show 0 < 1 by decide)) ((rg_pp (W := B13)).at (i := 0) rfl) rfl ?_
  obtain ⟨o16, h15, hr⟩ := bd_some hr
  obtain ⟨B17, h18, hr⟩ := bd_some hr
  refine x_cW (wc_board (fun H hb hh hH => m_13 hb hh h15) h18) rfl rfl rfl rfl (am_recv_v ((rg_board (W := B13)).lt (i := 0) (show 0 < 6 by decide)) ((rg_board (W := B13)).at (i := 0) rfl) rfl) (by omega) ?_
  refine x_ldan rfl rfl rfl ((rg_pp (W := B17)).lt (i := 0) (show 0 < 1 by decide)) ?_
  refine x_getf rfl rfl ((rg_pp (W := B17)).lt (i := 0) (show 0 < 1 by decide)) ((rg_pp (W := B17)).at (i := 0) rfl) rfl ?_
  obtain ⟨v20, h19, hr⟩ := bd_some hr
  refine x_cW (RnW.of0 (m_7 (rg_board (W := B17)) h19) ⟨rfl, rfl⟩) rfl rfl rfl rfl (am_recv_v ((rg_board (W := B17)).lt (i := 0) (show 0 < 6 by decide)) ((rg_board (W := B17)).at (i := 0) rfl) rfl) (by omega) ?_
  cases hr
  rw [kr]
  exact x_ret rfl rfl am_ret_i
/-- PebbleProofs.addEdge(II)I -/
def F_84 (B : Wd) (x1 : Int32) (x2 : Int32) : Option ((Int32 ⊕ Nat) × Wd) :=
  (F_125 B x1 x2).bind fun (r2, B3) =>
  xq r2 (fun X4 =>
    some (.inr X4, B3)) fun u5 =>
  (F_6 B3.board x1 x2).bind fun v7 =>
  if v7 = 0 then
    J_84_0_j23 B3 x1 x2
  else
    (F_128 B3 1).bind fun (r22, B23) =>
    xq r22 (fun X24 =>
      some (.inr X24, B23)) fun u25 =>
    J_84_0_j23 B23 x1 x2
theorem f_84 {d : Nat} (hd : 9 ≤ d) {scr : ASc} {res : ARe} {B : Wd} {x1 : Int32} {x2 : Int32} {o : (Int32 ⊕ Nat) × Wd} (hr : F_84 B x1 x2 = some o) (kr : res = (xI o.1, mk o.2, Wd.kc o.2, Wd.kn o.2)) : Ex d am_M84 scr (0, [some (.ref 0), some (.int x1), some (.int x2)], [], (mk B), B.kc, B.kn) res := by
  delta F_84 at hr
  refine x_ldan rfl rfl rfl ((rg_pp (W := B)).lt (i := 0) (show 0 < 1 by decide)) ?_
  refine x_b 2 (S2 := (3, [some (.ref 0), some (.int x1), some (.int x2)], [.int x2, .int x1, .ref 0], (mk B), B.kc, B.kn)) rfl ?_
  obtain ⟨⟨r2, B3⟩, h1, hr⟩ := bd_some hr
  have hr9 := xq_some hr
  clear hr
  rcases hr9 with ⟨X4, rfl, hr⟩ | ⟨u5, rfl, hr⟩
  · cases hr
    rw [kr]
    exact x_cX (m_125 h1) rfl rfl rfl rfl (am_recv_v ((rg_pp (W := B)).lt (i := 0) (show 0 < 1 by decide)) ((rg_pp (W := B)).at (i := 0) rfl) rfl) (by omega) rfl
  refine x_cW (m_125 h1) rfl rfl rfl rfl (am_recv_v ((rg_pp (W := B)).lt (i := 0) (show 0 < 1 by decide)) ((rg_pp (W := B)).at (i := 0) rfl) rfl) (by omega) ?_
  refine x_ldan rfl rfl rfl ((rg_pp (W := B3)).lt (i := 0) (show 0 < 1 by decide)) ?_
  refine x_getf rfl rfl ((rg_pp (W := B3)).lt (i := 0) (show 0 < 1 by decide)) ((rg_pp (W := B3)).at (i := 0) rfl) rfl ?_
  refine x_b 2 (S2 := (12, [some (.ref 0), some (.int x1), some (.int x2)], [.int x2, .int x1, .ref 1], (mk B3), B3.kc, B3.kn)) rfl ?_
  obtain ⟨v7, h6, hr⟩ := bd_some hr
  refine x_cW (RnW.of0 (m_6 (rg_board (W := B3)) h6) ⟨rfl, rfl⟩) rfl rfl rfl rfl (am_recv_v ((rg_board (W := B3)).lt (i := 0) (show 0 < 6 by decide)) ((rg_board (W := B3)).at (i := 0) rfl) rfl) (by omega) ?_
  rcases ite_some hr with ⟨h8, hr⟩ | ⟨h8, hr⟩
  · refine x_zt rfl rfl (decide_eq_true h8) ?_
    refine x_fg (Lq.s (Lq.s (Lq.s Lq.nil))) ?_
    exact j_84_0_j23 hd hr kr
  · refine x_zf rfl rfl (decide_eq_false h8) ?_
    refine x_ldan rfl rfl rfl ((rg_pp (W := B3)).lt (i := 0) (show 0 < 1 by decide)) ?_
    refine x_b 1 (S2 := (20, [some (.ref 0), some (.int x1), some (.int x2)], [.int 1, .ref 0], (mk B3), B3.kc, B3.kn)) rfl ?_
    obtain ⟨⟨r22, B23⟩, h21, hr⟩ := bd_some hr
    have hr9 := xq_some hr
    clear hr
    rcases hr9 with ⟨X24, rfl, hr⟩ | ⟨u25, rfl, hr⟩
    · cases hr
      rw [kr]
      exact x_cX (m_128 h21) rfl rfl rfl rfl (am_recv_v ((rg_pp (W := B3)).lt (i := 0) (show 0 < 1 by decide)) ((rg_pp (W := B3)).at (i := 0) rfl) rfl) (by omega) rfl
    refine x_cW (m_128 h21) rfl rfl rfl rfl (am_recv_v ((rg_pp (W := B3)).lt (i := 0) (show 0 < 1 by decide)) ((rg_pp (W := B3)).at (i := 0) rfl) rfl) (by omega) ?_
    refine x_fg (Lq.s (Lq.s (Lq.s Lq.nil))) ?_
    exact j_84_0_j23 hd hr kr
theorem m_84 {scr : ASc} {B : Wd} {x1 : Int32} {x2 : Int32} {o : (Int32 ⊕ Nat) × Wd} (hr : F_84 B x1 x2 = some o) : RnW scr 10 84 [.ref 0, .int x1, .int x2] B (xI o.1) o.2 :=
  x_methW (M := am_M84) rfl (show 3 ≤ 3 by decide) (f_84 (Nat.le_refl _) hr rfl)
def J_85_0_j40 (B : Wd) (x1 : Int32) (x2 : Int32) : Option ((Int32 ⊕ Nat) × Wd) :=
  (F_50 B).bind fun B13 =>
  (F_5 B13.board x1 x2).bind fun o15 =>
  (some (B13.w_board o15)).bind fun B16 =>
  (F_13 B16.board).bind fun o19 =>
  (some (B16.w_board o19)).bind fun B20 =>
  (F_7 B20.board).bind fun v23 =>
  some (.inl v23, B20)
theorem j_85_0_j40 {d : Nat} (hd : 9 ≤ d) {scr : ASc} {res : ARe} {B : Wd} {x1 : Int32} {x2 : Int32} {o : (Int32 ⊕ Nat) × Wd} (hr : J_85_0_j40 B x1 x2 = some o) (kr : res = (xI o.1, mk o.2, Wd.kc o.2, Wd.kn o.2)) : Ex d am_M85 scr (40, [some (.ref 0), some (.int x1), some (.int x2)], [], (mk B), B.kc, B.kn) res := by
  delta J_85_0_j40 at hr
  refine x_ldan rfl rfl rfl ((rg_pp (W := B)).lt (i := 0) (show 0 < 1 by decide)) ?_
  refine x_getf rfl rfl ((rg_pp (W := B)).lt (i := 0) (show 0 < 1 by decide)) ((rg_pp (W := B)).at (i := 0) rfl) rfl ?_
  refine x_ldan rfl rfl rfl ((rg_pp (W := B)).lt (i := 0) (show 0 < 1 by decide)) ?_
  refine x_getf rfl rfl ((rg_pp (W := B)).lt (i := 0) (show 0 < 1 by decide)) ((rg_pp (W := B)).at (i := 0) rfl) rfl ?_
  obtain ⟨B13, h12, hr⟩ := bd_some hr
  refine x_cW (m_50 h12) rfl rfl rfl rfl (am_recv_v ((rg_hist (W := B)).lt (i := 0) (show 0 < 2 by decide)) ((rg_hist (W := B)).at (i := 0) rfl) rfl) (by omega) ?_
  refine x_ldan rfl rfl rfl ((rg_pp (W := B13)).lt (i := 0) (show 0 < 1 by decide)) ?_
  refine x_getf rfl rfl ((rg_pp (W := B13)).lt (i := 0) (show 0 < 1 by decide)) ((rg_pp (W := B13)).at (i := 0) rfl) rfl ?_
  refine x_b 2 (S2 := (57, [some (.ref 0), some (.int x1), some (.int x2)], [.int x2, .int x1, .ref 1], (mk B13), B13.kc, B13.kn)) rfl ?_
  obtain ⟨o15, h14, hr⟩ := bd_some hr
  obtain ⟨B16, h17, hr⟩ := bd_some hr
  refine x_cW (wc_board (fun H hb hh hH => m_5 hb hh h14) h17) rfl rfl rfl rfl (am_recv_v ((rg_board (W := B13)).lt (i := 0) (show 0 < 6 by decide)) ((rg_board (W := B13)).at (i := 0) rfl) rfl) (by omega) ?_
  refine x_ldan rfl rfl rfl ((rg_pp (W := B16)).lt (i := 0) (show 0 < 1 by decide)) ?_
  refine x_getf rfl rfl ((rg_pp (W := B16)).lt (i := 0) (show 0 < 1 by decide)) ((rg_pp (W := B16)).at (i := 0) rfl) rfl ?_
  obtain ⟨o19, h18, hr⟩ := bd_some hr
  obtain ⟨B20, h21, hr⟩ := bd_some hr
  refine x_cW (wc_board (fun H hb hh hH => m_13 hb hh h18) h21) rfl rfl rfl rfl (am_recv_v ((rg_board (W := B16)).lt (i := 0) (show 0 < 6 by decide)) ((rg_board (W := B16)).at (i := 0) rfl) rfl) (by omega) ?_
  refine x_ldan rfl rfl rfl ((rg_pp (W := B20)).lt (i := 0) (show 0 < 1 by decide)) ?_
  refine x_getf rfl rfl ((rg_pp (W := B20)).lt (i := 0) (show 0 < 1 by decide)) ((rg_pp (W := B20)).at (i := 0) rfl) rfl ?_
  obtain ⟨v23, h22, hr⟩ := bd_some hr
  refine x_cW (RnW.of0 (m_7 (rg_board (W := B20)) h22) ⟨rfl, rfl⟩) rfl rfl rfl rfl (am_recv_v ((rg_board (W := B20)).lt (i := 0) (show 0 < 6 by decide)) ((rg_board (W := B20)).at (i := 0) rfl) rfl) (by omega) ?_
  cases hr
  rw [kr]
  exact x_ret rfl rfl am_ret_i
def J_85_0_j23 (B : Wd) (x1 : Int32) (x2 : Int32) : Option ((Int32 ⊕ Nat) × Wd) :=
  (F_12 B.board x1 x2).bind fun v10 =>
  if ¬ v10 = 0 then
    J_85_0_j40 B x1 x2
  else
    (F_128 B 3).bind fun (r25, B26) =>
    xq r25 (fun X27 =>
      some (.inr X27, B26)) fun u28 =>
    J_85_0_j40 B26 x1 x2
theorem j_85_0_j23 {d : Nat} (hd : 9 ≤ d) {scr : ASc} {res : ARe} {B : Wd} {x1 : Int32} {x2 : Int32} {o : (Int32 ⊕ Nat) × Wd} (hr : J_85_0_j23 B x1 x2 = some o) (kr : res = (xI o.1, mk o.2, Wd.kc o.2, Wd.kn o.2)) : Ex d am_M85 scr (23, [some (.ref 0), some (.int x1), some (.int x2)], [], (mk B), B.kc, B.kn) res := by
  delta J_85_0_j23 at hr
  refine x_ldan rfl rfl rfl ((rg_pp (W := B)).lt (i := 0) (show 0 < 1 by decide)) ?_
  refine x_getf rfl rfl ((rg_pp (W := B)).lt (i := 0) (show 0 < 1 by decide)) ((rg_pp (W := B)).at (i := 0) rfl) rfl ?_
  refine x_b 2 (S2 := (29, [some (.ref 0), some (.int x1), some (.int x2)], [.int x2, .int x1, .ref 1], (mk B), B.kc, B.kn)) rfl ?_
  obtain ⟨v10, h9, hr⟩ := bd_some hr
  refine x_cW (RnW.of0 (m_12 (rg_board (W := B)) h9) ⟨rfl, rfl⟩) rfl rfl rfl rfl (am_recv_v ((rg_board (W := B)).lt (i := 0) (show 0 < 6 by decide)) ((rg_board (W := B)).at (i := 0) rfl) rfl) (by omega) ?_
  rcases ite_some hr with ⟨h11, hr⟩ | ⟨h11, hr⟩
  · refine x_zt rfl rfl (decide_eq_true h11) ?_
    refine x_fg (Lq.s (Lq.s (Lq.s Lq.nil))) ?_
    exact j_85_0_j40 hd hr kr
  · refine x_zf rfl rfl (decide_eq_false h11) ?_
    refine x_ldan rfl rfl rfl ((rg_pp (W := B)).lt (i := 0) (show 0 < 1 by decide)) ?_
    refine x_b 1 (S2 := (37, [some (.ref 0), some (.int x1), some (.int x2)], [.int 3, .ref 0], (mk B), B.kc, B.kn)) rfl ?_
    obtain ⟨⟨r25, B26⟩, h24, hr⟩ := bd_some hr
    have hr9 := xq_some hr
    clear hr
    rcases hr9 with ⟨X27, rfl, hr⟩ | ⟨u28, rfl, hr⟩
    · cases hr
      rw [kr]
      exact x_cX (m_128 h24) rfl rfl rfl rfl (am_recv_v ((rg_pp (W := B)).lt (i := 0) (show 0 < 1 by decide)) ((rg_pp (W := B)).at (i := 0) rfl) rfl) (by omega) rfl
    refine x_cW (m_128 h24) rfl rfl rfl rfl (am_recv_v ((rg_pp (W := B)).lt (i := 0) (show 0 < 1 by decide)) ((rg_pp (W := B)).at (i := 0) rfl) rfl) (by omega) ?_
    refine x_fg (Lq.s (Lq.s (Lq.s Lq.nil))) ?_
    exact j_85_0_j40 hd hr kr
/-- PebbleProofs.removeEdge(II)I -/
def F_85 (B : Wd) (x1 : Int32) (x2 : Int32) : Option ((Int32 ⊕ Nat) × Wd) :=
  (F_125 B x1 x2).bind fun (r2, B3) =>
  xq r2 (fun X4 =>
    some (.inr X4, B3)) fun u5 =>
  (F_6 B3.board x1 x2).bind fun v7 =>
  if ¬ v7 = 0 then
    J_85_0_j23 B3 x1 x2
  else
    (F_128 B3 2).bind fun (r30, B31) =>
    xq r30 (fun X32 =>
      some (.inr X32, B31)) fun u33 =>
    J_85_0_j23 B31 x1 x2
theorem f_85 {d : Nat} (hd : 9 ≤ d) {scr : ASc} {res : ARe} {B : Wd} {x1 : Int32} {x2 : Int32} {o : (Int32 ⊕ Nat) × Wd} (hr : F_85 B x1 x2 = some o) (kr : res = (xI o.1, mk o.2, Wd.kc o.2, Wd.kn o.2)) : Ex d am_M85 scr (0, [some (.ref 0), some (.int x1), some (.int x2)], [], (mk B), B.kc, B.kn) res := by
  delta F_85 at hr
  refine x_ldan rfl rfl rfl ((rg_pp (W := B)).lt (i := 0) (show 0 < 1 by decide)) ?_
  refine x_b 2 (S2 := (3, [some (.ref 0), some (.int x1), some (.int x2)], [.int x2, .int x1, .ref 0], (mk B), B.kc, B.kn)) rfl ?_
  obtain ⟨⟨r2, B3⟩, h1, hr⟩ := bd_some hr
  have hr9 := xq_some hr
  clear hr
  rcases hr9 with ⟨X4, rfl, hr⟩ | ⟨u5, rfl, hr⟩
  · cases hr
    rw [kr]
    exact x_cX (m_125 h1) rfl rfl rfl rfl (am_recv_v ((rg_pp (W := B)).lt (i := 0) (show 0 < 1 by decide)) ((rg_pp (W := B)).at (i := 0) rfl) rfl) (by omega) rfl
  refine x_cW (m_125 h1) rfl rfl rfl rfl (am_recv_v ((rg_pp (W := B)).lt (i := 0) (show 0 < 1 by decide)) ((rg_pp (W := B)).at (i := 0) rfl) rfl) (by omega) ?_
  refine x_ldan rfl rfl rfl ((rg_pp (W := B3)).lt (i := 0) (show 0 < 1 by decide)) ?_
  refine x_getf rfl rfl ((rg_pp (W := B3)).lt (i := 0) (show 0 < 1 by decide)) ((rg_pp (W := B3)).at (i := 0) rfl) rfl ?_
  refine x_b 2 (S2 := (12, [some (.ref 0), some (.int x1), some (.int x2)], [.int x2, .int x1, .ref 1], (mk B3), B3.kc, B3.kn)) rfl ?_
  obtain ⟨v7, h6, hr⟩ := bd_some hr
  refine x_cW (RnW.of0 (m_6 (rg_board (W := B3)) h6) ⟨rfl, rfl⟩) rfl rfl rfl rfl (am_recv_v ((rg_board (W := B3)).lt (i := 0) (show 0 < 6 by decide)) ((rg_board (W := B3)).at (i := 0) rfl) rfl) (by omega) ?_
  rcases ite_some hr with ⟨h8, hr⟩ | ⟨h8, hr⟩
  · refine x_zt rfl rfl (decide_eq_true h8) ?_
    refine x_fg (Lq.s (Lq.s (Lq.s Lq.nil))) ?_
    exact j_85_0_j23 hd hr kr
  · refine x_zf rfl rfl (decide_eq_false h8) ?_
    refine x_ldan rfl rfl rfl ((rg_pp (W := B3)).lt (i := 0) (show 0 < 1 by decide)) ?_
    refine x_b 1 (S2 := (20, [some (.ref 0), some (.int x1), some (.int x2)], [.int 2, .ref 0], (mk B3), B3.kc, B3.kn)) rfl ?_
    obtain ⟨⟨r30, B31⟩, h29, hr⟩ := bd_some hr
    have hr9 := xq_some hr
    clear hr
    rcases hr9 with ⟨X32, rfl, hr⟩ | ⟨u33, rfl, hr⟩
    · cases hr
      rw [kr]
      exact x_cX (m_128 h29) rfl rfl rfl rfl (am_recv_v ((rg_pp (W := B3)).lt (i := 0) (show 0 < 1 by decide)) ((rg_pp (W := B3)).at (i := 0) rfl) rfl) (by omega) rfl
    refine x_cW (m_128 h29) rfl rfl rfl rfl (am_recv_v ((rg_pp (W := B3)).lt (i := 0) (show 0 < 1 by decide)) ((rg_pp (W := B3)).at (i := 0) rfl) rfl) (by omega) ?_
    refine x_fg (Lq.s (Lq.s (Lq.s Lq.nil))) ?_
    exact j_85_0_j23 hd hr kr
theorem m_85 {scr : ASc} {B : Wd} {x1 : Int32} {x2 : Int32} {o : (Int32 ⊕ Nat) × Wd} (hr : F_85 B x1 x2 = some o) : RnW scr 10 85 [.ref 0, .int x1, .int x2] B (xI o.1) o.2 :=
  x_methW (M := am_M85) rfl (show 3 ≤ 3 by decide) (f_85 (Nat.le_refl _) hr rfl)
def J_86_0_j33 (B : Wd) : Option ((Int32 ⊕ Nat) × Wd) :=
  some (.inr 1, B.thr)
theorem j_86_0_j33 {d : Nat} (hd : 8 ≤ d) {scr : ASc} {res : ARe} {B : Wd} {o : (Int32 ⊕ Nat) × Wd} (hr : J_86_0_j33 B = some o) (kr : res = (xI o.1, mk o.2, Wd.kc o.2, Wd.kn o.2)) : Ex d am_M86 scr (33, [none, none, none], [], (mk B), B.kc, B.kn) res := by
  delta J_86_0_j33 at hr
  cases hr
  rw [kr]
  exact x_thr rfl (by decide) (by omega) (by decide) rfl
/-- PebbleProofs.put(II)I -/
def F_86 (B : Wd) (x1 : Int32) (x2 : Int32) : Option ((Int32 ⊕ Nat) × Wd) :=
  (F_124 B x1).bind fun (r2, B3) =>
  xq r2 (fun X4 =>
    some (.inr X4, B3)) fun u5 =>
  if x2 < 1 then
    J_86_0_j33 B3
  else
    if 99 < x2 then
      J_86_0_j33 B3
    else
      (ix x1 6).bind fun i8 =>
      if ((B3.board.pile i8) + x2) ≤ 999 then
        (F_50 B3).bind fun B12 =>
        (some (B12.board.w_pile (upd B12.board.pile i8 ((B12.board.pile i8) + x2)))).bind fun o13 =>
        (some (B12.w_board o13)).bind fun B15 =>
        some (.inl (B15.board.pile i8), B15)
      else
        J_86_0_j33 B3
theorem f_86 {d : Nat} (hd : 8 ≤ d) {scr : ASc} {res : ARe} {B : Wd} {x1 : Int32} {x2 : Int32} {o : (Int32 ⊕ Nat) × Wd} (hr : F_86 B x1 x2 = some o) (kr : res = (xI o.1, mk o.2, Wd.kc o.2, Wd.kn o.2)) : Ex d am_M86 scr (0, [some (.ref 0), some (.int x1), some (.int x2)], [], (mk B), B.kc, B.kn) res := by
  delta F_86 at hr
  refine x_ldan rfl rfl rfl ((rg_pp (W := B)).lt (i := 0) (show 0 < 1 by decide)) ?_
  refine x_b 1 (S2 := (2, [some (.ref 0), some (.int x1), some (.int x2)], [.int x1, .ref 0], (mk B), B.kc, B.kn)) rfl ?_
  obtain ⟨⟨r2, B3⟩, h1, hr⟩ := bd_some hr
  have hr9 := xq_some hr
  clear hr
  rcases hr9 with ⟨X4, rfl, hr⟩ | ⟨u5, rfl, hr⟩
  · cases hr
    rw [kr]
    exact x_cX (m_124 h1) rfl rfl rfl rfl (am_recv_v ((rg_pp (W := B)).lt (i := 0) (show 0 < 1 by decide)) ((rg_pp (W := B)).at (i := 0) rfl) rfl) (by omega) rfl
  refine x_cW (m_124 h1) rfl rfl rfl rfl (am_recv_v ((rg_pp (W := B)).lt (i := 0) (show 0 < 1 by decide)) ((rg_pp (W := B)).at (i := 0) rfl) rfl) (by omega) ?_
  refine x_b 2 (S2 := (7, [some (.ref 0), some (.int x1), some (.int x2)], [.int 1, .int x2], (mk B3), B3.kc, B3.kn)) rfl ?_
  rcases ite_some hr with ⟨h6, hr⟩ | ⟨h6, hr⟩
  · refine x_ct rfl rfl (decide_eq_true h6) ?_
    refine x_fg (Lq.n (Lq.n (Lq.n Lq.nil))) ?_
    exact j_86_0_j33 hd hr kr
  · refine x_cf rfl rfl (decide_eq_false h6) ?_
    refine x_b 2 (S2 := (13, [some (.ref 0), some (.int x1), some (.int x2)], [.int 99, .int x2], (mk B3), B3.kc, B3.kn)) rfl ?_
    rcases ite_some hr with ⟨h7, hr⟩ | ⟨h7, hr⟩
    · refine x_ct rfl rfl (decide_eq_true h7) ?_
      refine x_fg (Lq.n (Lq.n (Lq.n Lq.nil))) ?_
      exact j_86_0_j33 hd hr kr
    · refine x_cf rfl rfl (decide_eq_false h7) ?_
      refine x_ldan rfl rfl rfl ((rg_pp (W := B3)).lt (i := 0) (show 0 < 1 by decide)) ?_
      refine x_getf rfl rfl ((rg_pp (W := B3)).lt (i := 0) (show 0 < 1 by decide)) ((rg_pp (W := B3)).at (i := 0) rfl) rfl ?_
      refine x_getf rfl rfl ((rg_board (W := B3)).lt (i := 0) (show 0 < 6 by decide)) ((rg_board (W := B3)).at (i := 0) rfl) rfl ?_
      refine x_b 1 (S2 := (24, [some (.ref 0), some (.int x1), some (.int x2)], [.int x1, .ref (1 + 1)], (mk B3), B3.kc, B3.kn)) rfl ?_
      obtain ⟨i8, h9, hr⟩ := bd_some hr
      refine x_iald rfl rfl ((rg_board (W := B3)).lt (i := 1) (show 1 < 6 by decide)) ((rg_board (W := B3)).at (i := 1) rfl) h9 ?_
      refine x_b 3 (S2 := (30, [some (.ref 0), some (.int x1), some (.int x2)], [.int 999, .int ((B3.board.pile i8) + x2)], (mk B3), B3.kc, B3.kn)) rfl ?_
      rcases ite_some hr with ⟨h10, hr⟩ | ⟨h10, hr⟩
      · refine x_ct rfl rfl (decide_eq_true h10) ?_
        refine x_ldan rfl rfl rfl ((rg_pp (W := B3)).lt (i := 0) (show 0 < 1 by decide)) ?_
        refine x_getf rfl rfl ((rg_pp (W := B3)).lt (i := 0) (show 0 < 1 by decide)) ((rg_pp (W := B3)).at (i := 0) rfl) rfl ?_
        refine x_ldan rfl rfl rfl ((rg_pp (W := B3)).lt (i := 0) (show 0 < 1 by decide)) ?_
        refine x_getf rfl rfl ((rg_pp (W := B3)).lt (i := 0) (show 0 < 1 by decide)) ((rg_pp (W := B3)).at (i := 0) rfl) rfl ?_
        obtain ⟨B12, h11, hr⟩ := bd_some hr
        refine x_cW (m_50 h11) rfl rfl rfl rfl (am_recv_v ((rg_hist (W := B3)).lt (i := 0) (show 0 < 2 by decide)) ((rg_hist (W := B3)).at (i := 0) rfl) rfl) (by omega) ?_
        refine x_ldan rfl rfl rfl ((rg_pp (W := B12)).lt (i := 0) (show 0 < 1 by decide)) ?_
        refine x_getf rfl rfl ((rg_pp (W := B12)).lt (i := 0) (show 0 < 1 by decide)) ((rg_pp (W := B12)).at (i := 0) rfl) rfl ?_
        refine x_getf rfl rfl ((rg_board (W := B12)).lt (i := 0) (show 0 < 6 by decide)) ((rg_board (W := B12)).at (i := 0) rfl) rfl ?_
        refine x_b 2 (S2 := (63, [some (.ref 0), some (.int x1), some (.int x2)], [.int x1, .ref (1 + 1), .int x1, .ref (1 + 1)], (mk B12), B12.kc, B12.kn)) rfl ?_
        refine x_iald rfl rfl ((rg_board (W := B12)).lt (i := 1) (show 1 < 6 by decide)) ((rg_board (W := B12)).at (i := 1) rfl) h9 ?_
        refine x_b 2 (S2 := (66, [some (.ref 0), some (.int x1), some (.int x2)], [.int ((B12.board.pile i8) + x2), .int x1, .ref (1 + 1)], (mk B12), B12.kc, B12.kn)) rfl ?_
        obtain ⟨o13, h14, hr⟩ := bd_some hr
        obtain ⟨B15, h16, hr⟩ := bd_some hr
        refine x_iast (H := (mk B15)) rfl rfl ((rg_board (W := B12)).lt (i := 1) (show 1 < 6 by decide)) ((rg_board (W := B12)).at (i := 1) rfl) h9 (ws_board (i := 1) (Bd.s_pile h14) h16 (by decide)) ?_
        refine x_kk (kk_board h16) ?_
        refine x_ldan rfl rfl rfl ((rg_pp (W := B15)).lt (i := 0) (show 0 < 1 by decide)) ?_
        refine x_getf rfl rfl ((rg_pp (W := B15)).lt (i := 0) (show 0 < 1 by decide)) ((rg_pp (W := B15)).at (i := 0) rfl) rfl ?_
        refine x_getf rfl rfl ((rg_board (W := B15)).lt (i := 0) (show 0 < 6 by decide)) ((rg_board (W := B15)).at (i := 0) rfl) rfl ?_
        refine x_b 1 (S2 := (75, [some (.ref 0), some (.int x1), some (.int x2)], [.int x1, .ref (1 + 1)], (mk B15), B15.kc, B15.kn)) rfl ?_
        refine x_iald rfl rfl ((rg_board (W := B15)).lt (i := 1) (show 1 < 6 by decide)) ((rg_board (W := B15)).at (i := 1) rfl) h9 ?_
        cases hr
        rw [kr]
        exact x_ret rfl rfl am_ret_i
      · refine x_cf rfl rfl (decide_eq_false h10) ?_
        refine x_fg (Lq.n (Lq.n (Lq.n Lq.nil))) ?_
        exact j_86_0_j33 hd hr kr
theorem m_86 {scr : ASc} {B : Wd} {x1 : Int32} {x2 : Int32} {o : (Int32 ⊕ Nat) × Wd} (hr : F_86 B x1 x2 = some o) : RnW scr 9 86 [.ref 0, .int x1, .int x2] B (xI o.1) o.2 :=
  x_methW (M := am_M86) rfl (show 3 ≤ 3 by decide) (f_86 (Nat.le_refl _) hr rfl)
def J_87_0_j16 (B : Wd) : Option ((Int32 ⊕ Nat) × Wd) :=
  some (.inr 1, B.thr)
theorem j_87_0_j16 {d : Nat} (hd : 8 ≤ d) {scr : ASc} {res : ARe} {B : Wd} {o : (Int32 ⊕ Nat) × Wd} (hr : J_87_0_j16 B = some o) (kr : res = (xI o.1, mk o.2, Wd.kc o.2, Wd.kn o.2)) : Ex d am_M87 scr (16, [none, none, none], [], (mk B), B.kc, B.kn) res := by
  delta J_87_0_j16 at hr
  cases hr
  rw [kr]
  exact x_thr rfl (by decide) (by omega) (by decide) rfl
def J_87_0_j44 (B : Wd) (x1 : Int32) (x2 : Int32) : Option ((Int32 ⊕ Nat) × Wd) :=
  (F_50 B).bind fun B12 =>
  (ix x1 6).bind fun i13 =>
  (some (B12.board.w_pile (upd B12.board.pile i13 ((B12.board.pile i13) - x2)))).bind fun o15 =>
  (some (B12.w_board o15)).bind fun B17 =>
  some (.inl (B17.board.pile i13), B17)
theorem j_87_0_j44 {d : Nat} (hd : 8 ≤ d) {scr : ASc} {res : ARe} {B : Wd} {x1 : Int32} {x2 : Int32} {o : (Int32 ⊕ Nat) × Wd} (hr : J_87_0_j44 B x1 x2 = some o) (kr : res = (xI o.1, mk o.2, Wd.kc o.2, Wd.kn o.2)) : Ex d am_M87 scr (44, [some (.ref 0), some (.int x1), some (.int x2)], [], (mk B), B.kc, B.kn) res := by
  delta J_87_0_j44 at hr
  refine x_ldan rfl rfl rfl ((rg_pp (W := B)).lt (i := 0) (show 0 < 1 by decide)) ?_
  refine x_getf rfl rfl ((rg_pp (W := B)).lt (i := 0) (show 0 < 1 by decide)) ((rg_pp (W := B)).at (i := 0) rfl) rfl ?_
  refine x_ldan rfl rfl rfl ((rg_pp (W := B)).lt (i := 0) (show 0 < 1 by decide)) ?_
  refine x_getf rfl rfl ((rg_pp (W := B)).lt (i := 0) (show 0 < 1 by decide)) ((rg_pp (W := B)).at (i := 0) rfl) rfl ?_
  obtain ⟨B12, h11, hr⟩ := bd_some hr
  refine x_cW (m_50 h11) rfl rfl rfl rfl (am_recv_v ((rg_hist (W := B)).lt (i := 0) (show 0 < 2 by decide)) ((rg_hist (W := B)).at (i := 0) rfl) rfl) (by omega) ?_
  refine x_ldan rfl rfl rfl ((rg_pp (W := B12)).lt (i := 0) (show 0 < 1 by decide)) ?_
  refine x_getf rfl rfl ((rg_pp (W := B12)).lt (i := 0) (show 0 < 1 by decide)) ((rg_pp (W := B12)).at (i := 0) rfl) rfl ?_
  refine x_getf rfl rfl ((rg_board (W := B12)).lt (i := 0) (show 0 < 6 by decide)) ((rg_board (W := B12)).at (i := 0) rfl) rfl ?_
  refine x_b 2 (S2 := (64, [some (.ref 0), some (.int x1), some (.int x2)], [.int x1, .ref (1 + 1), .int x1, .ref (1 + 1)], (mk B12), B12.kc, B12.kn)) rfl ?_
  obtain ⟨i13, h14, hr⟩ := bd_some hr
  refine x_iald rfl rfl ((rg_board (W := B12)).lt (i := 1) (show 1 < 6 by decide)) ((rg_board (W := B12)).at (i := 1) rfl) h14 ?_
  refine x_b 2 (S2 := (67, [some (.ref 0), some (.int x1), some (.int x2)], [.int ((B12.board.pile i13) - x2), .int x1, .ref (1 + 1)], (mk B12), B12.kc, B12.kn)) rfl ?_
  obtain ⟨o15, h16, hr⟩ := bd_some hr
  obtain ⟨B17, h18, hr⟩ := bd_some hr
  refine x_iast (H := (mk B17)) rfl rfl ((rg_board (W := B12)).lt (i := 1) (show 1 < 6 by decide)) ((rg_board (W := B12)).at (i := 1) rfl) h14 (ws_board (i := 1) (Bd.s_pile h16) h18 (by decide)) ?_
  refine x_kk (kk_board h18) ?_
  refine x_ldan rfl rfl rfl ((rg_pp (W := B17)).lt (i := 0) (show 0 < 1 by decide)) ?_
  refine x_getf rfl rfl ((rg_pp (W := B17)).lt (i := 0) (show 0 < 1 by decide)) ((rg_pp (W := B17)).at (i := 0) rfl) rfl ?_
  refine x_getf rfl rfl ((rg_board (W := B17)).lt (i := 0) (show 0 < 6 by decide)) ((rg_board (W := B17)).at (i := 0) rfl) rfl ?_
  refine x_b 1 (S2 := (76, [some (.ref 0), some (.int x1), some (.int x2)], [.int x1, .ref (1 + 1)], (mk B17), B17.kc, B17.kn)) rfl ?_
  refine x_iald rfl rfl ((rg_board (W := B17)).lt (i := 1) (show 1 < 6 by decide)) ((rg_board (W := B17)).at (i := 1) rfl) h14 ?_
  cases hr
  rw [kr]
  exact x_ret rfl rfl am_ret_i
/-- PebbleProofs.take(II)I -/
def F_87 (B : Wd) (x1 : Int32) (x2 : Int32) : Option ((Int32 ⊕ Nat) × Wd) :=
  (F_124 B x1).bind fun (r2, B3) =>
  xq r2 (fun X4 =>
    some (.inr X4, B3)) fun u5 =>
  if x2 < 1 then
    J_87_0_j16 B3
  else
    if x2 ≤ 99 then
      (ix x1 6).bind fun i8 =>
      if x2 ≤ (B3.board.pile i8) then
        J_87_0_j44 B3 x1 x2
      else
        (F_128 B3 5).bind fun (r20, B21) =>
        xq r20 (fun X22 =>
          some (.inr X22, B21)) fun u23 =>
        J_87_0_j44 B21 x1 x2
    else
      J_87_0_j16 B3
theorem f_87 {d : Nat} (hd : 8 ≤ d) {scr : ASc} {res : ARe} {B : Wd} {x1 : Int32} {x2 : Int32} {o : (Int32 ⊕ Nat) × Wd} (hr : F_87 B x1 x2 = some o) (kr : res = (xI o.1, mk o.2, Wd.kc o.2, Wd.kn o.2)) : Ex d am_M87 scr (0, [some (.ref 0), some (.int x1), some (.int x2)], [], (mk B), B.kc, B.kn) res := by
  delta F_87 at hr
  refine x_ldan rfl rfl rfl ((rg_pp (W := B)).lt (i := 0) (show 0 < 1 by decide)) ?_
  refine x_b 1 (S2 := (2, [some (.ref 0), some (.int x1), some (.int x2)], [.int x1, .ref 0], (mk B), B.kc, B.kn)) rfl ?_
  obtain ⟨⟨r2, B3⟩, h1, hr⟩ := bd_some hr
  have hr9 := xq_some hr
  clear hr
  rcases hr9 with ⟨X4, rfl, hr⟩ | ⟨u5, rfl, hr⟩
  · cases hr
    rw [kr]
    exact x_cX (m_124 h1) rfl rfl rfl rfl (am_recv_v ((rg_pp (W := B)).lt (i := 0) (show 0 < 1 by decide)) ((rg_pp (W := B)).at (i := 0) rfl) rfl) (by omega) rfl
  refine x_cW (m_124 h1) rfl rfl rfl rfl (am_recv_v ((rg_pp (W := B)).lt (i := 0) (show 0 < 1 by decide)) ((rg_pp (W := B)).at (i := 0) rfl) rfl) (by omega) ?_
  refine x_b 2 (S2 := (7, [some (.ref 0), some (.int x1), some (.int x2)], [.int 1, .int x2], (mk B3), B3.kc, B3.kn)) rfl ?_
  rcases ite_some hr with ⟨h6, hr⟩ | ⟨h6, hr⟩
  · refine x_ct rfl rfl (decide_eq_true h6) ?_
    refine x_fg (Lq.n (Lq.n (Lq.n Lq.nil))) ?_
    exact j_87_0_j16 hd hr kr
  · refine x_cf rfl rfl (decide_eq_false h6) ?_
    refine x_b 2 (S2 := (13, [some (.ref 0), some (.int x1), some (.int x2)], [.int 99, .int x2], (mk B3), B3.kc, B3.kn)) rfl ?_
    rcases ite_some hr with ⟨h7, hr⟩ | ⟨h7, hr⟩
    · refine x_ct rfl rfl (decide_eq_true h7) ?_
      refine x_ldan rfl rfl rfl ((rg_pp (W := B3)).lt (i := 0) (show 0 < 1 by decide)) ?_
      refine x_getf rfl rfl ((rg_pp (W := B3)).lt (i := 0) (show 0 < 1 by decide)) ((rg_pp (W := B3)).at (i := 0) rfl) rfl ?_
      refine x_getf rfl rfl ((rg_board (W := B3)).lt (i := 0) (show 0 < 6 by decide)) ((rg_board (W := B3)).at (i := 0) rfl) rfl ?_
      refine x_b 1 (S2 := (34, [some (.ref 0), some (.int x1), some (.int x2)], [.int x1, .ref (1 + 1)], (mk B3), B3.kc, B3.kn)) rfl ?_
      obtain ⟨i8, h9, hr⟩ := bd_some hr
      refine x_iald rfl rfl ((rg_board (W := B3)).lt (i := 1) (show 1 < 6 by decide)) ((rg_board (W := B3)).at (i := 1) rfl) h9 ?_
      refine x_b 1 (S2 := (36, [some (.ref 0), some (.int x1), some (.int x2)], [.int x2, .int (B3.board.pile i8)], (mk B3), B3.kc, B3.kn)) rfl ?_
      rcases ite_some hr with ⟨h10, hr⟩ | ⟨h10, hr⟩
      · refine x_ct rfl rfl (decide_eq_true h10) ?_
        refine x_fg (Lq.s (Lq.s (Lq.s Lq.nil))) ?_
        exact j_87_0_j44 hd hr kr
      · refine x_cf rfl rfl (decide_eq_false h10) ?_
        refine x_ldan rfl rfl rfl ((rg_pp (W := B3)).lt (i := 0) (show 0 < 1 by decide)) ?_
        refine x_b 1 (S2 := (41, [some (.ref 0), some (.int x1), some (.int x2)], [.int 5, .ref 0], (mk B3), B3.kc, B3.kn)) rfl ?_
        obtain ⟨⟨r20, B21⟩, h19, hr⟩ := bd_some hr
        have hr9 := xq_some hr
        clear hr
        rcases hr9 with ⟨X22, rfl, hr⟩ | ⟨u23, rfl, hr⟩
        · cases hr
          rw [kr]
          exact x_cX (m_128 h19) rfl rfl rfl rfl (am_recv_v ((rg_pp (W := B3)).lt (i := 0) (show 0 < 1 by decide)) ((rg_pp (W := B3)).at (i := 0) rfl) rfl) (by omega) rfl
        refine x_cW (m_128 h19) rfl rfl rfl rfl (am_recv_v ((rg_pp (W := B3)).lt (i := 0) (show 0 < 1 by decide)) ((rg_pp (W := B3)).at (i := 0) rfl) rfl) (by omega) ?_
        refine x_fg (Lq.s (Lq.s (Lq.s Lq.nil))) ?_
        exact j_87_0_j44 hd hr kr
    · refine x_cf rfl rfl (decide_eq_false h7) ?_
      refine x_fg (Lq.n (Lq.n (Lq.n Lq.nil))) ?_
      exact j_87_0_j16 hd hr kr
theorem m_87 {scr : ASc} {B : Wd} {x1 : Int32} {x2 : Int32} {o : (Int32 ⊕ Nat) × Wd} (hr : F_87 B x1 x2 = some o) : RnW scr 9 87 [.ref 0, .int x1, .int x2] B (xI o.1) o.2 :=
  x_methW (M := am_M87) rfl (show 3 ≤ 3 by decide) (f_87 (Nat.le_refl _) hr rfl)
def J_88_0_j66 (B : Wd) (x1 : Int32) (x2 : Int32) : Option ((Int32 ⊕ Nat) × Wd) :=
  (F_50 B).bind fun B21 =>
  (F_24 B21.board x1 x2).bind fun o23 =>
  (some (B21.w_board o23)).bind fun B24 =>
  (ix x2 6).bind fun i26 =>
  some (.inl (B24.board.pile i26), B24)
theorem j_88_0_j66 {d : Nat} (hd : 8 ≤ d) {scr : ASc} {res : ARe} {B : Wd} {x1 : Int32} {x2 : Int32} {o : (Int32 ⊕ Nat) × Wd} (hr : J_88_0_j66 B x1 x2 = some o) (kr : res = (xI o.1, mk o.2, Wd.kc o.2, Wd.kn o.2)) : Ex d am_M88 scr (66, [some (.ref 0), some (.int x1), some (.int x2)], [], (mk B), B.kc, B.kn) res := by
  delta J_88_0_j66 at hr
  refine x_ldan rfl rfl rfl ((rg_pp (W := B)).lt (i := 0) (show 0 < 1 by decide)) ?_
  refine x_getf rfl rfl ((rg_pp (W := B)).lt (i := 0) (show 0 < 1 by decide)) ((rg_pp (W := B)).at (i := 0) rfl) rfl ?_
  refine x_ldan rfl rfl rfl ((rg_pp (W := B)).lt (i := 0) (show 0 < 1 by decide)) ?_
  refine x_getf rfl rfl ((rg_pp (W := B)).lt (i := 0) (show 0 < 1 by decide)) ((rg_pp (W := B)).at (i := 0) rfl) rfl ?_
  obtain ⟨B21, h20, hr⟩ := bd_some hr
  refine x_cW (m_50 h20) rfl rfl rfl rfl (am_recv_v ((rg_hist (W := B)).lt (i := 0) (show 0 < 2 by decide)) ((rg_hist (W := B)).at (i := 0) rfl) rfl) (by omega) ?_
  refine x_ldan rfl rfl rfl ((rg_pp (W := B21)).lt (i := 0) (show 0 < 1 by decide)) ?_
  refine x_getf rfl rfl ((rg_pp (W := B21)).lt (i := 0) (show 0 < 1 by decide)) ((rg_pp (W := B21)).at (i := 0) rfl) rfl ?_
  refine x_b 2 (S2 := (83, [some (.ref 0), some (.int x1), some (.int x2)], [.int x2, .int x1, .ref 1], (mk B21), B21.kc, B21.kn)) rfl ?_
  obtain ⟨o23, h22, hr⟩ := bd_some hr
  obtain ⟨B24, h25, hr⟩ := bd_some hr
  refine x_cW (wc_board (fun H hb hh hH => m_24 hb hh h22) h25) rfl rfl rfl rfl (am_recv_v ((rg_board (W := B21)).lt (i := 0) (show 0 < 6 by decide)) ((rg_board (W := B21)).at (i := 0) rfl) rfl) (by omega) ?_
  refine x_ldan rfl rfl rfl ((rg_pp (W := B24)).lt (i := 0) (show 0 < 1 by decide)) ?_
  refine x_getf rfl rfl ((rg_pp (W := B24)).lt (i := 0) (show 0 < 1 by decide)) ((rg_pp (W := B24)).at (i := 0) rfl) rfl ?_
  refine x_getf rfl rfl ((rg_board (W := B24)).lt (i := 0) (show 0 < 6 by decide)) ((rg_board (W := B24)).at (i := 0) rfl) rfl ?_
  refine x_b 1 (S2 := (94, [some (.ref 0), some (.int x1), some (.int x2)], [.int x2, .ref (1 + 1)], (mk B24), B24.kc, B24.kn)) rfl ?_
  obtain ⟨i26, h27, hr⟩ := bd_some hr
  refine x_iald rfl rfl ((rg_board (W := B24)).lt (i := 1) (show 1 < 6 by decide)) ((rg_board (W := B24)).at (i := 1) rfl) h27 ?_
  cases hr
  rw [kr]
  exact x_ret rfl rfl am_ret_i
def J_88_0_j45 (B : Wd) (x1 : Int32) (x2 : Int32) : Option ((Int32 ⊕ Nat) × Wd) :=
  (ix x2 6).bind fun i17 =>
  if (B.board.pile i17) < 999 then
    J_88_0_j66 B x1 x2
  else
    (F_128 B 6).bind fun (r29, B30) =>
    xq r29 (fun X31 =>
      some (.inr X31, B30)) fun u32 =>
    J_88_0_j66 B30 x1 x2
theorem j_88_0_j45 {d : Nat} (hd : 8 ≤ d) {scr : ASc} {res : ARe} {B : Wd} {x1 : Int32} {x2 : Int32} {o : (Int32 ⊕ Nat) × Wd} (hr : J_88_0_j45 B x1 x2 = some o) (kr : res = (xI o.1, mk o.2, Wd.kc o.2, Wd.kn o.2)) : Ex d am_M88 scr (45, [some (.ref 0), some (.int x1), some (.int x2)], [], (mk B), B.kc, B.kn) res := by
  delta J_88_0_j45 at hr
  refine x_ldan rfl rfl rfl ((rg_pp (W := B)).lt (i := 0) (show 0 < 1 by decide)) ?_
  refine x_getf rfl rfl ((rg_pp (W := B)).lt (i := 0) (show 0 < 1 by decide)) ((rg_pp (W := B)).at (i := 0) rfl) rfl ?_
  refine x_getf rfl rfl ((rg_board (W := B)).lt (i := 0) (show 0 < 6 by decide)) ((rg_board (W := B)).at (i := 0) rfl) rfl ?_
  refine x_b 1 (S2 := (53, [some (.ref 0), some (.int x1), some (.int x2)], [.int x2, .ref (1 + 1)], (mk B), B.kc, B.kn)) rfl ?_
  obtain ⟨i17, h18, hr⟩ := bd_some hr
  refine x_iald rfl rfl ((rg_board (W := B)).lt (i := 1) (show 1 < 6 by decide)) ((rg_board (W := B)).at (i := 1) rfl) h18 ?_
  refine x_b 1 (S2 := (57, [some (.ref 0), some (.int x1), some (.int x2)], [.int 999, .int (B.board.pile i17)], (mk B), B.kc, B.kn)) rfl ?_
  rcases ite_some hr with ⟨h19, hr⟩ | ⟨h19, hr⟩
  · refine x_ct rfl rfl (decide_eq_true h19) ?_
    refine x_fg (Lq.s (Lq.s (Lq.s Lq.nil))) ?_
    exact j_88_0_j66 hd hr kr
  · refine x_cf rfl rfl (decide_eq_false h19) ?_
    refine x_ldan rfl rfl rfl ((rg_pp (W := B)).lt (i := 0) (show 0 < 1 by decide)) ?_
    refine x_b 1 (S2 := (63, [some (.ref 0), some (.int x1), some (.int x2)], [.int 6, .ref 0], (mk B), B.kc, B.kn)) rfl ?_
    obtain ⟨⟨r29, B30⟩, h28, hr⟩ := bd_some hr
    have hr9 := xq_some hr
    clear hr
    rcases hr9 with ⟨X31, rfl, hr⟩ | ⟨u32, rfl, hr⟩
    · cases hr
      rw [kr]
      exact x_cX (m_128 h28) rfl rfl rfl rfl (am_recv_v ((rg_pp (W := B)).lt (i := 0) (show 0 < 1 by decide)) ((rg_pp (W := B)).at (i := 0) rfl) rfl) (by omega) rfl
    refine x_cW (m_128 h28) rfl rfl rfl rfl (am_recv_v ((rg_pp (W := B)).lt (i := 0) (show 0 < 1 by decide)) ((rg_pp (W := B)).at (i := 0) rfl) rfl) (by omega) ?_
    refine x_fg (Lq.s (Lq.s (Lq.s Lq.nil))) ?_
    exact j_88_0_j66 hd hr kr
def J_88_0_j27 (B : Wd) (x1 : Int32) (x2 : Int32) : Option ((Int32 ⊕ Nat) × Wd) :=
  (ix x1 6).bind fun i14 =>
  if 2 ≤ (B.board.pile i14) then
    J_88_0_j45 B x1 x2
  else
    (F_128 B 5).bind fun (r34, B35) =>
    xq r34 (fun X36 =>
      some (.inr X36, B35)) fun u37 =>
    J_88_0_j45 B35 x1 x2
theorem j_88_0_j27 {d : Nat} (hd : 8 ≤ d) {scr : ASc} {res : ARe} {B : Wd} {x1 : Int32} {x2 : Int32} {o : (Int32 ⊕ Nat) × Wd} (hr : J_88_0_j27 B x1 x2 = some o) (kr : res = (xI o.1, mk o.2, Wd.kc o.2, Wd.kn o.2)) : Ex d am_M88 scr (27, [some (.ref 0), some (.int x1), some (.int x2)], [], (mk B), B.kc, B.kn) res := by
  delta J_88_0_j27 at hr
  refine x_ldan rfl rfl rfl ((rg_pp (W := B)).lt (i := 0) (show 0 < 1 by decide)) ?_
  refine x_getf rfl rfl ((rg_pp (W := B)).lt (i := 0) (show 0 < 1 by decide)) ((rg_pp (W := B)).at (i := 0) rfl) rfl ?_
  refine x_getf rfl rfl ((rg_board (W := B)).lt (i := 0) (show 0 < 6 by decide)) ((rg_board (W := B)).at (i := 0) rfl) rfl ?_
  refine x_b 1 (S2 := (35, [some (.ref 0), some (.int x1), some (.int x2)], [.int x1, .ref (1 + 1)], (mk B), B.kc, B.kn)) rfl ?_
  obtain ⟨i14, h15, hr⟩ := bd_some hr
  refine x_iald rfl rfl ((rg_board (W := B)).lt (i := 1) (show 1 < 6 by decide)) ((rg_board (W := B)).at (i := 1) rfl) h15 ?_
  refine x_b 1 (S2 := (37, [some (.ref 0), some (.int x1), some (.int x2)], [.int 2, .int (B.board.pile i14)], (mk B), B.kc, B.kn)) rfl ?_
  rcases ite_some hr with ⟨h16, hr⟩ | ⟨h16, hr⟩
  · refine x_ct rfl rfl (decide_eq_true h16) ?_
    refine x_fg (Lq.s (Lq.s (Lq.s Lq.nil))) ?_
    exact j_88_0_j45 hd hr kr
  · refine x_cf rfl rfl (decide_eq_false h16) ?_
    refine x_ldan rfl rfl rfl ((rg_pp (W := B)).lt (i := 0) (show 0 < 1 by decide)) ?_
    refine x_b 1 (S2 := (42, [some (.ref 0), some (.int x1), some (.int x2)], [.int 5, .ref 0], (mk B), B.kc, B.kn)) rfl ?_
    obtain ⟨⟨r34, B35⟩, h33, hr⟩ := bd_some hr
    have hr9 := xq_some hr
    clear hr
    rcases hr9 with ⟨X36, rfl, hr⟩ | ⟨u37, rfl, hr⟩
    · cases hr
      rw [kr]
      exact x_cX (m_128 h33) rfl rfl rfl rfl (am_recv_v ((rg_pp (W := B)).lt (i := 0) (show 0 < 1 by decide)) ((rg_pp (W := B)).at (i := 0) rfl) rfl) (by omega) rfl
    refine x_cW (m_128 h33) rfl rfl rfl rfl (am_recv_v ((rg_pp (W := B)).lt (i := 0) (show 0 < 1 by decide)) ((rg_pp (W := B)).at (i := 0) rfl) rfl) (by omega) ?_
    refine x_fg (Lq.s (Lq.s (Lq.s Lq.nil))) ?_
    exact j_88_0_j45 hd hr kr
/-- PebbleProofs.move(II)I -/
def F_88 (B : Wd) (x1 : Int32) (x2 : Int32) : Option ((Int32 ⊕ Nat) × Wd) :=
  (F_124 B x1).bind fun (r2, B3) =>
  xq r2 (fun X4 =>
    some (.inr X4, B3)) fun u5 =>
  (F_124 B3 x2).bind fun (r7, B8) =>
  xq r7 (fun X9 =>
    some (.inr X9, B8)) fun u10 =>
  (F_6 B8.board x1 x2).bind fun v12 =>
  if ¬ v12 = 0 then
    J_88_0_j27 B8 x1 x2
  else
    (F_128 B8 4).bind fun (r39, B40) =>
    xq r39 (fun X41 =>
      some (.inr X41, B40)) fun u42 =>
    J_88_0_j27 B40 x1 x2
theorem f_88 {d : Nat} (hd : 8 ≤ d) {scr : ASc} {res : ARe} {B : Wd} {x1 : Int32} {x2 : Int32} {o : (Int32 ⊕ Nat) × Wd} (hr : F_88 B x1 x2 = some o) (kr : res = (xI o.1, mk o.2, Wd.kc o.2, Wd.kn o.2)) : Ex d am_M88 scr (0, [some (.ref 0), some (.int x1), some (.int x2)], [], (mk B), B.kc, B.kn) res := by
  delta F_88 at hr
  refine x_ldan rfl rfl rfl ((rg_pp (W := B)).lt (i := 0) (show 0 < 1 by decide)) ?_
  refine x_b 1 (S2 := (2, [some (.ref 0), some (.int x1), some (.int x2)], [.int x1, .ref 0], (mk B), B.kc, B.kn)) rfl ?_
  obtain ⟨⟨r2, B3⟩, h1, hr⟩ := bd_some hr
  have hr9 := xq_some hr
  clear hr
  rcases hr9 with ⟨X4, rfl, hr⟩ | ⟨u5, rfl, hr⟩
  · cases hr
    rw [kr]
    exact x_cX (m_124 h1) rfl rfl rfl rfl (am_recv_v ((rg_pp (W := B)).lt (i := 0) (show 0 < 1 by decide)) ((rg_pp (W := B)).at (i := 0) rfl) rfl) (by omega) rfl
  refine x_cW (m_124 h1) rfl rfl rfl rfl (am_recv_v ((rg_pp (W := B)).lt (i := 0) (show 0 < 1 by decide)) ((rg_pp (W := B)).at (i := 0) rfl) rfl) (by omega) ?_
  refine x_ldan rfl rfl rfl ((rg_pp (W := B3)).lt (i := 0) (show 0 < 1 by decide)) ?_
  refine x_b 1 (S2 := (7, [some (.ref 0), some (.int x1), some (.int x2)], [.int x2, .ref 0], (mk B3), B3.kc, B3.kn)) rfl ?_
  obtain ⟨⟨r7, B8⟩, h6, hr⟩ := bd_some hr
  have hr9 := xq_some hr
  clear hr
  rcases hr9 with ⟨X9, rfl, hr⟩ | ⟨u10, rfl, hr⟩
  · cases hr
    rw [kr]
    exact x_cX (m_124 h6) rfl rfl rfl rfl (am_recv_v ((rg_pp (W := B3)).lt (i := 0) (show 0 < 1 by decide)) ((rg_pp (W := B3)).at (i := 0) rfl) rfl) (by omega) rfl
  refine x_cW (m_124 h6) rfl rfl rfl rfl (am_recv_v ((rg_pp (W := B3)).lt (i := 0) (show 0 < 1 by decide)) ((rg_pp (W := B3)).at (i := 0) rfl) rfl) (by omega) ?_
  refine x_ldan rfl rfl rfl ((rg_pp (W := B8)).lt (i := 0) (show 0 < 1 by decide)) ?_
  refine x_getf rfl rfl ((rg_pp (W := B8)).lt (i := 0) (show 0 < 1 by decide)) ((rg_pp (W := B8)).at (i := 0) rfl) rfl ?_
  refine x_b 2 (S2 := (16, [some (.ref 0), some (.int x1), some (.int x2)], [.int x2, .int x1, .ref 1], (mk B8), B8.kc, B8.kn)) rfl ?_
  obtain ⟨v12, h11, hr⟩ := bd_some hr
  refine x_cW (RnW.of0 (m_6 (rg_board (W := B8)) h11) ⟨rfl, rfl⟩) rfl rfl rfl rfl (am_recv_v ((rg_board (W := B8)).lt (i := 0) (show 0 < 6 by decide)) ((rg_board (W := B8)).at (i := 0) rfl) rfl) (by omega) ?_
  rcases ite_some hr with ⟨h13, hr⟩ | ⟨h13, hr⟩
  · refine x_zt rfl rfl (decide_eq_true h13) ?_
    refine x_fg (Lq.s (Lq.s (Lq.s Lq.nil))) ?_
    exact j_88_0_j27 hd hr kr
  · refine x_zf rfl rfl (decide_eq_false h13) ?_
    refine x_ldan rfl rfl rfl ((rg_pp (W := B8)).lt (i := 0) (show 0 < 1 by decide)) ?_
    refine x_b 1 (S2 := (24, [some (.ref 0), some (.int x1), some (.int x2)], [.int 4, .ref 0], (mk B8), B8.kc, B8.kn)) rfl ?_
    obtain ⟨⟨r39, B40⟩, h38, hr⟩ := bd_some hr
    have hr9 := xq_some hr
    clear hr
    rcases hr9 with ⟨X41, rfl, hr⟩ | ⟨u42, rfl, hr⟩
    · cases hr
      rw [kr]
      exact x_cX (m_128 h38) rfl rfl rfl rfl (am_recv_v ((rg_pp (W := B8)).lt (i := 0) (show 0 < 1 by decide)) ((rg_pp (W := B8)).at (i := 0) rfl) rfl) (by omega) rfl
    refine x_cW (m_128 h38) rfl rfl rfl rfl (am_recv_v ((rg_pp (W := B8)).lt (i := 0) (show 0 < 1 by decide)) ((rg_pp (W := B8)).at (i := 0) rfl) rfl) (by omega) ?_
    refine x_fg (Lq.s (Lq.s (Lq.s Lq.nil))) ?_
    exact j_88_0_j27 hd hr kr
theorem m_88 {scr : ASc} {B : Wd} {x1 : Int32} {x2 : Int32} {o : (Int32 ⊕ Nat) × Wd} (hr : F_88 B x1 x2 = some o) : RnW scr 9 88 [.ref 0, .int x1, .int x2] B (xI o.1) o.2 :=
  x_methW (M := am_M88) rfl (show 3 ≤ 3 by decide) (f_88 (Nat.le_refl _) hr rfl)
def J_129_0_j50 (B : Wd) (x2 : Nat) : Option (Nat × Wd) :=
  (B.fp x2).bind fun D21 =>
  some (x2, B)
theorem j_129_0_j50 {d : Nat} (hd : 6 ≤ d) {scr : ASc} {res : ARe} {B : Wd} {x2 : Nat} {o : Nat × Wd} (hr : J_129_0_j50 B x2 = some o) (kr : res = (.inl (some (.ref o.1)), mk o.2, Wd.kc o.2, Wd.kn o.2)) : Ex d am_M129 scr (50, [none, none, some (.ref x2)], [], (mk B), B.kc, B.kn) res := by
  delta J_129_0_j50 at hr
  obtain ⟨D21, h22, hr⟩ := bd_some hr
  refine x_ldan rfl rfl rfl ((rg_fp h22).lt (i := 0) (show 0 < 6 by decide)) ?_
  cases hr
  rw [kr]
  exact x_ret rfl rfl (am_ret_r ((rg_fp h22).lt (i := 0) (show 0 < 6 by decide)))
def J_129_0_j27 (B : Wd) (x2 : Nat) : Option (Nat × Wd) :=
  (B.fp x2).bind fun D16 =>
  (F_37 B x2).bind fun v19 =>
  if ¬ v19 = 0 then
    J_129_0_j50 B x2
  else
    (F_44 B x2).bind fun B24 =>
    J_129_0_j50 B24 x2
theorem j_129_0_j27 {d : Nat} (hd : 6 ≤ d) {scr : ASc} {res : ARe} {B : Wd} {x2 : Nat} {o : Nat × Wd} (hr : J_129_0_j27 B x2 = some o) (kr : res = (.inl (some (.ref o.1)), mk o.2, Wd.kc o.2, Wd.kn o.2)) : Ex d am_M129 scr (27, [some (.ref 0), none, some (.ref x2)], [], (mk B), B.kc, B.kn) res := by
  delta J_129_0_j27 at hr
  obtain ⟨D16, h17, hr⟩ := bd_some hr
  refine x_ldan rfl rfl rfl ((rg_fp h17).lt (i := 0) (show 0 < 6 by decide)) ?_
  refine x_ldan rfl rfl rfl ((rg_pp (W := B)).lt (i := 0) (show 0 < 1 by decide)) ?_
  refine x_getf rfl rfl ((rg_pp (W := B)).lt (i := 0) (show 0 < 1 by decide)) ((rg_pp (W := B)).at (i := 0) rfl) rfl ?_
  obtain ⟨v19, h18, hr⟩ := bd_some hr
  refine x_cW (m_37 h18) rfl rfl rfl rfl (am_recv_v ((rg_fp h17).lt (i := 0) (show 0 < 6 by decide)) ((rg_fp h17).at (i := 0) rfl) rfl) (by omega) ?_
  rcases ite_some hr with ⟨h20, hr⟩ | ⟨h20, hr⟩
  · refine x_zt rfl rfl (decide_eq_true h20) ?_
    refine x_fg (Lq.n (Lq.s (Lq.s Lq.nil))) ?_
    exact j_129_0_j50 hd hr kr
  · refine x_zf rfl rfl (decide_eq_false h20) ?_
    refine x_ldan rfl rfl rfl ((rg_fp h17).lt (i := 0) (show 0 < 6 by decide)) ?_
    refine x_ldan rfl rfl rfl ((rg_pp (W := B)).lt (i := 0) (show 0 < 1 by decide)) ?_
    refine x_getf rfl rfl ((rg_pp (W := B)).lt (i := 0) (show 0 < 1 by decide)) ((rg_pp (W := B)).at (i := 0) rfl) rfl ?_
    refine x_ldan rfl rfl rfl ((rg_pp (W := B)).lt (i := 0) (show 0 < 1 by decide)) ?_
    refine x_getf rfl rfl ((rg_pp (W := B)).lt (i := 0) (show 0 < 1 by decide)) ((rg_pp (W := B)).at (i := 0) rfl) rfl ?_
    obtain ⟨B24, h23, hr⟩ := bd_some hr
    refine x_cW (m_44 h23) rfl rfl rfl rfl (am_recv_v ((rg_fp h17).lt (i := 0) (show 0 < 6 by decide)) ((rg_fp h17).at (i := 0) rfl) rfl) (by omega) ?_
    refine x_fg (Lq.n (Lq.s (Lq.s Lq.nil))) ?_
    exact j_129_0_j50 hd hr kr
/-- PebbleProofs.failingPilesOf(I)LPebbleProofs$FailingPiles; -/
def F_129 (B : Wd) (x1 : Int32) : Option (Nat × Wd) :=
  (ix x1 6).bind fun i1 =>
  oq (B.fps i1) (
    if B.top < 900000 then (
    (some (B.pushF x1)).bind fun B6 =>
    (B6.fp B.top).bind fun D8 =>
    (ix x1 6).bind fun i10 =>
    (some (va_up B6.fps i10 (some B.top))).bind fun o12 =>
    (some (B6.w_fps o12)).bind fun B14 =>
    J_129_0_j27 B14 B.top) else none) fun a3 =>
  (B.fp a3).bind fun D25 =>
  J_129_0_j27 B a3
theorem f_129 {d : Nat} (hd : 6 ≤ d) {scr : ASc} {res : ARe} {B : Wd} {x1 : Int32} {o : Nat × Wd} (hr : F_129 B x1 = some o) (kr : res = (.inl (some (.ref o.1)), mk o.2, Wd.kc o.2, Wd.kn o.2)) : Ex d am_M129 scr (0, [some (.ref 0), some (.int x1), none], [], (mk B), B.kc, B.kn) res := by
  delta F_129 at hr
  refine x_ldan rfl rfl rfl ((rg_pp (W := B)).lt (i := 0) (show 0 < 1 by decide)) ?_
  refine x_getf rfl rfl ((rg_pp (W := B)).lt (i := 0) (show 0 < 1 by decide)) ((rg_pp (W := B)).at (i := 0) rfl) rfl ?_
  refine x_b 1 (S2 := (5, [some (.ref 0), some (.int x1), none], [.int x1, .ref 27], (mk B), B.kc, B.kn)) rfl ?_
  obtain ⟨i1, h2, hr⟩ := bd_some hr
  rcases oq_some hr with ⟨h4, hr⟩ | ⟨a3, h4, hr⟩
  · refine x_aaN rfl rfl ((rg_fps (W := B)).lt (i := 0) (show 0 < 1 by decide)) ((rg_fps (W := B)).at (i := 0) rfl) (by decide) h2 h4 ?_
    refine x_b 1 (S2 := (7, [some (.ref 0), some (.int x1), some (.null)], [], (mk B), B.kc, B.kn)) rfl ?_
    refine x_ldnn rfl rfl rfl ?_
    refine x_nulN rfl rfl ?_
    obtain ⟨h5, hr⟩ := itn_some hr
    obtain ⟨B6, h7, hr⟩ := bd_some hr
    refine x_newW rfl rfl (by decide) h5 ?_
    refine x_b 2 (S2 := (16, [some (.ref 0), some (.int x1), some (.null)], [.int x1, .ref B.top, .ref B.top], mk B ++ [.inr (1, am_fd 1)], B.kc + 1, B.kn + (am_fd 1).length)) rfl ?_
    refine x_newF h5 h7 rfl rfl (by omega) ?_
    obtain ⟨D8, h9, hr⟩ := bd_some hr
    refine x_stan rfl rfl (show 2 < 3 by decide) (lt_ne ((rg_fp h9).lt (i := 0) (show 0 < 6 by decide))) rfl ?_
    refine x_ldan rfl rfl rfl ((rg_pp (W := B6)).lt (i := 0) (show 0 < 1 by decide)) ?_
    refine x_getf rfl rfl ((rg_pp (W := B6)).lt (i := 0) (show 0 < 1 by decide)) ((rg_pp (W := B6)).at (i := 0) rfl) rfl ?_
    refine x_b 1 (S2 := (25, [some (.ref 0), some (.int x1), some (.ref B.top)], [.int x1, .ref 27], (mk B6), B6.kc, B6.kn)) rfl ?_
    refine x_ldan rfl rfl rfl ((rg_fp h9).lt (i := 0) (show 0 < 6 by decide)) ?_
    obtain ⟨i10, h11, hr⟩ := bd_some hr
    obtain ⟨o12, h13, hr⟩ := bd_some hr
    obtain ⟨B14, h15, hr⟩ := bd_some hr
    refine x_aast (H := (mk B14)) rfl rfl ((rg_fps (W := B6)).lt (i := 0) (show 0 < 1 by decide)) ((rg_fp h9).lt (i := 0) (show 0 < 6 by decide)) ((rg_fps (W := B6)).at (i := 0) rfl) ((rg_fp h9).at (i := 0) rfl) rfl h11 (ws_fps (i := 0) (Qr.s_ h13) h15 (by decide)) ?_
    refine x_kk (kk_fps h15) ?_
    refine x_fg (Lq.s (Lq.n (Lq.s Lq.nil))) ?_
    exact j_129_0_j27 hd hr kr
  · refine x_aaS rfl rfl ((rg_fps (W := B)).lt (i := 0) (show 0 < 1 by decide)) ((rg_fps (W := B)).at (i := 0) rfl) (by decide) h2 h4 ?_
    obtain ⟨D25, h26, hr⟩ := bd_some hr
    refine x_stan rfl rfl (show 2 < 3 by decide) (lt_ne ((rg_fp h26).lt (i := 0) (show 0 < 6 by decide))) rfl ?_
    refine x_ldan rfl rfl rfl ((rg_fp h26).lt (i := 0) (show 0 < 6 by decide)) ?_
    refine x_nulS rfl rfl ((rg_fp h26).lt (i := 0) (show 0 < 6 by decide)) ?_
    refine x_fg (Lq.s (Lq.n (Lq.s Lq.nil))) ?_
    exact j_129_0_j27 hd hr kr
theorem m_129 {scr : ASc} {B : Wd} {x1 : Int32} {o : Nat × Wd} (hr : F_129 B x1 = some o) : RnW scr 7 129 [.ref 0, .int x1] B (.inl (some (.ref o.1))) o.2 :=
  x_methW (M := am_M129) rfl (show 2 ≤ 3 by decide) (f_129 (Nat.le_refl _) hr rfl)
/-- PebbleProofs.failsAfter(IILPebbleProofs$FailingPiles;)Z -/
def F_131 (B : Wd) (x1 : Int32) (x2 : Int32) (x3 : Nat) : Option (Int32 × Wd) :=
  (ix x1 6).bind fun i1 =>
  (some (B.board.w_pile (upd B.board.pile i1 ((B.board.pile i1) - 2)))).bind fun o3 =>
  (some (B.w_board o3)).bind fun B5 =>
  (ix x2 6).bind fun i7 =>
  (some (B5.board.w_pile (upd B5.board.pile i7 ((B5.board.pile i7) + 1)))).bind fun o9 =>
  (some (B5.w_board o9)).bind fun B11 =>
  (B11.fp x3).bind fun D13 =>
  (F_43 B11 x3).bind fun v16 =>
  (some (B11.board.w_pile (upd B11.board.pile i1 ((B11.board.pile i1) + 2)))).bind fun o17 =>
  (some (B11.w_board o17)).bind fun B19 =>
  (some (B19.board.w_pile (upd B19.board.pile i7 ((B19.board.pile i7) - 1)))).bind fun o21 =>
  (some (B19.w_board o21)).bind fun B23 =>
  if v16 = 0 ∨ v16 = 1 then some (v16, B23) else none
theorem f_131 {d : Nat} (hd : 3 ≤ d) {scr : ASc} {res : ARe} {B : Wd} {x1 : Int32} {x2 : Int32} {x3 : Nat} {o : Int32 × Wd} (hr : F_131 B x1 x2 x3 = some o) (kr : res = (.inl (some (.int o.1)), mk o.2, Wd.kc o.2, Wd.kn o.2)) : Ex d am_M131 scr (0, [some (.ref 0), some (.int x1), some (.int x2), some (.ref x3), none], [], (mk B), B.kc, B.kn) res := by
  delta F_131 at hr
  refine x_ldan rfl rfl rfl ((rg_pp (W := B)).lt (i := 0) (show 0 < 1 by decide)) ?_
  refine x_getf rfl rfl ((rg_pp (W := B)).lt (i := 0) (show 0 < 1 by decide)) ((rg_pp (W := B)).at (i := 0) rfl) rfl ?_
  refine x_getf rfl rfl ((rg_board (W := B)).lt (i := 0) (show 0 < 6 by decide)) ((rg_board (W := B)).at (i := 0) rfl) rfl ?_
  refine x_b 2 (S2 := (9, [some (.ref 0), some (.int x1), some (.int x2), some (.ref x3), none], [.int x1, .ref (1 + 1), .int x1, .ref (1 + 1)], (mk B), B.kc, B.kn)) rfl ?_
  obtain ⟨i1, h2, hr⟩ := bd_some hr
  refine x_iald rfl rfl ((rg_board (W := B)).lt (i := 1) (show 1 < 6 by decide)) ((rg_board (W := B)).at (i := 1) rfl) h2 ?_
  refine x_b 2 (S2 := (12, [some (.ref 0), some (.int x1), some (.int x2), some (.ref x3), none], [.int ((B.board.pile i1) - 2), .int x1, .ref (1 + 1)], (mk B), B.kc, B.kn)) rfl ?_
  obtain ⟨o3, h4, hr⟩ := bd_some hr
  obtain ⟨B5, h6, hr⟩ := bd_some hr
  refine x_iast (H := (mk B5)) rfl rfl ((rg_board (W := B)).lt (i := 1) (show 1 < 6 by decide)) ((rg_board (W := B)).at (i := 1) rfl) h2 (ws_board (i := 1) (Bd.s_pile h4) h6 (by decide)) ?_
  refine x_kk (kk_board h6) ?_
  refine x_ldan rfl rfl rfl ((rg_pp (W := B5)).lt (i := 0) (show 0 < 1 by decide)) ?_
  refine x_getf rfl rfl ((rg_pp (W := B5)).lt (i := 0) (show 0 < 1 by decide)) ((rg_pp (W := B5)).at (i := 0) rfl) rfl ?_
  refine x_getf rfl rfl ((rg_board (W := B5)).lt (i := 0) (show 0 < 6 by decide)) ((rg_board (W := B5)).at (i := 0) rfl) rfl ?_
  refine x_b 2 (S2 := (22, [some (.ref 0), some (.int x1), some (.int x2), some (.ref x3), none], [.int x2, .ref (1 + 1), .int x2, .ref (1 + 1)], (mk B5), B5.kc, B5.kn)) rfl ?_
  obtain ⟨i7, h8, hr⟩ := bd_some hr
  refine x_iald rfl rfl ((rg_board (W := B5)).lt (i := 1) (show 1 < 6 by decide)) ((rg_board (W := B5)).at (i := 1) rfl) h8 ?_
  refine x_b 2 (S2 := (25, [some (.ref 0), some (.int x1), some (.int x2), some (.ref x3), none], [.int ((B5.board.pile i7) + 1), .int x2, .ref (1 + 1)], (mk B5), B5.kc, B5.kn)) rfl ?_
  obtain ⟨o9, h10, hr⟩ := bd_some hr
  obtain ⟨B11, h12, hr⟩ := bd_some hr
  refine x_iast (H := (mk B11)) rfl rfl ((rg_board (W := B5)).lt (i := 1) (show 1 < 6 by decide)) ((rg_board (W := B5)).at (i := 1) rfl) h8 (ws_board (i := 1) (Bd.s_pile h10) h12 (by decide)) ?_
  refine x_kk (kk_board h12) ?_
  obtain ⟨D13, h14, hr⟩ := bd_some hr
  refine x_ldan rfl rfl rfl ((rg_fp h14).lt (i := 0) (show 0 < 6 by decide)) ?_
  refine x_ldan rfl rfl rfl ((rg_pp (W := B11)).lt (i := 0) (show 0 < 1 by decide)) ?_
  refine x_getf rfl rfl ((rg_pp (W := B11)).lt (i := 0) (show 0 < 1 by decide)) ((rg_pp (W := B11)).at (i := 0) rfl) rfl ?_
  refine x_getf rfl rfl ((rg_board (W := B11)).lt (i := 0) (show 0 < 6 by decide)) ((rg_board (W := B11)).at (i := 0) rfl) rfl ?_
  obtain ⟨v16, h15, hr⟩ := bd_some hr
  refine x_cW (m_43 h15) rfl rfl rfl rfl (am_recv_v ((rg_fp h14).lt (i := 0) (show 0 < 6 by decide)) ((rg_fp h14).at (i := 0) rfl) rfl) (by omega) ?_
  refine x_b 1 (S2 := (39, [some (.ref 0), some (.int x1), some (.int x2), some (.ref x3), some (.int v16)], [], (mk B11), B11.kc, B11.kn)) rfl ?_
  refine x_ldan rfl rfl rfl ((rg_pp (W := B11)).lt (i := 0) (show 0 < 1 by decide)) ?_
  refine x_getf rfl rfl ((rg_pp (W := B11)).lt (i := 0) (show 0 < 1 by decide)) ((rg_pp (W := B11)).at (i := 0) rfl) rfl ?_
  refine x_getf rfl rfl ((rg_board (W := B11)).lt (i := 0) (show 0 < 6 by decide)) ((rg_board (W := B11)).at (i := 0) rfl) rfl ?_
  refine x_b 2 (S2 := (48, [some (.ref 0), some (.int x1), some (.int x2), some (.ref x3), some (.int v16)], [.int x1, .ref (1 + 1), .int x1, .ref (1 + 1)], (mk B11), B11.kc, B11.kn)) rfl ?_
  refine x_iald rfl rfl ((rg_board (W := B11)).lt (i := 1) (show 1 < 6 by decide)) ((rg_board (W := B11)).at (i := 1) rfl) h2 ?_
  refine x_b 2 (S2 := (51, [some (.ref 0), some (.int x1), some (.int x2), some (.ref x3), some (.int v16)], [.int ((B11.board.pile i1) + 2), .int x1, .ref (1 + 1)], (mk B11), B11.kc, B11.kn)) rfl ?_
  obtain ⟨o17, h18, hr⟩ := bd_some hr
  obtain ⟨B19, h20, hr⟩ := bd_some hr
  refine x_iast (H := (mk B19)) rfl rfl ((rg_board (W := B11)).lt (i := 1) (show 1 < 6 by decide)) ((rg_board (W := B11)).at (i := 1) rfl) h2 (ws_board (i := 1) (Bd.s_pile h18) h20 (by decide)) ?_
  refine x_kk (kk_board h20) ?_
  refine x_ldan rfl rfl rfl ((rg_pp (W := B19)).lt (i := 0) (show 0 < 1 by decide)) ?_
  refine x_getf rfl rfl ((rg_pp (W := B19)).lt (i := 0) (show 0 < 1 by decide)) ((rg_pp (W := B19)).at (i := 0) rfl) rfl ?_
  refine x_getf rfl rfl ((rg_board (W := B19)).lt (i := 0) (show 0 < 6 by decide)) ((rg_board (W := B19)).at (i := 0) rfl) rfl ?_
  refine x_b 2 (S2 := (61, [some (.ref 0), some (.int x1), some (.int x2), some (.ref x3), some (.int v16)], [.int x2, .ref (1 + 1), .int x2, .ref (1 + 1)], (mk B19), B19.kc, B19.kn)) rfl ?_
  refine x_iald rfl rfl ((rg_board (W := B19)).lt (i := 1) (show 1 < 6 by decide)) ((rg_board (W := B19)).at (i := 1) rfl) h8 ?_
  refine x_b 2 (S2 := (64, [some (.ref 0), some (.int x1), some (.int x2), some (.ref x3), some (.int v16)], [.int ((B19.board.pile i7) - 1), .int x2, .ref (1 + 1)], (mk B19), B19.kc, B19.kn)) rfl ?_
  obtain ⟨o21, h22, hr⟩ := bd_some hr
  obtain ⟨B23, h24, hr⟩ := bd_some hr
  refine x_iast (H := (mk B23)) rfl rfl ((rg_board (W := B19)).lt (i := 1) (show 1 < 6 by decide)) ((rg_board (W := B19)).at (i := 1) rfl) h8 (ws_board (i := 1) (Bd.s_pile h22) h24 (by decide)) ?_
  refine x_kk (kk_board h24) ?_
  refine x_b 1 (S2 := (67, [some (.ref 0), some (.int x1), some (.int x2), some (.ref x3), some (.int v16)], [.int v16], (mk B23), B23.kc, B23.kn)) rfl ?_
  obtain ⟨h25, hr⟩ := itn_some hr
  cases hr
  rw [kr]
  exact x_ret rfl rfl (am_ret_z h25)
theorem m_131 {scr : ASc} {B : Wd} {x1 : Int32} {x2 : Int32} {x3 : Nat} {o : Int32 × Wd} (hr : F_131 B x1 x2 x3 = some o) : RnW scr 4 131 [.ref 0, .int x1, .int x2, .ref x3] B (.inl (some (.int o.1))) o.2 :=
  x_methW (M := am_M131) rfl (show 4 ≤ 5 by decide) (f_131 (Nat.le_refl _) hr rfl)
abbrev P_130_2 (x1 : Nat) (s : Int32 × Wd) : ASt := (2, [some (.ref 0), some (.ref x1), some (.int s.1), none], [], (mk s.2), Wd.kc s.2, Wd.kn s.2)
abbrev PX_130_2 (x1 : Nat) (s : Wd) : ASt := (67, [none, none, none, none], [], (mk s), Wd.kc s, Wd.kn s)
abbrev P_130_15 (x1 : Nat) (x2 : Int32) (s : Int32 × Wd) : ASt := (15, [some (.ref 0), some (.ref x1), some (.int x2), some (.int s.1)], [], (mk s.2), Wd.kc s.2, Wd.kn s.2)
abbrev PX_130_15 (x1 : Nat) (x2 : Int32) (s : Wd) : ASt := (61, [some (.ref 0), some (.ref x1), some (.int x2), none], [], (mk s), Wd.kc s, Wd.kn s)
def J_130_15_j55 (B : Wd) (x1 : Nat) (x2 : Int32) (x3 : Int32) : Option ((Int32 × Wd) ⊕ (Wd) ⊕ (Int32 × Wd)) :=
  some (.inl ((x3 + 1), B))
theorem j_130_15_j55 {d : Nat} (hd : 4 ≤ d) {scr : ASc} {res : ARe} {B : Wd} {x1 : Nat} {x2 : Int32} {x3 : Int32} {o : (Int32 × Wd) ⊕ (Wd) ⊕ (Int32 × Wd)} (hr : J_130_15_j55 B x1 x2 x3 = some o) (ka : ∀ s, o = .inl s → Ex d am_M130 scr (P_130_15 x1 x2 s) res) (kx : ∀ s, o = .inr (.inl s) → Ex d am_M130 scr (PX_130_15 x1 x2 s) res) (kr : ∀ r, o = .inr (.inr r) → res = (.inl (some (.int r.1)), mk r.2, Wd.kc r.2, Wd.kn r.2)) : Ex d am_M130 scr (55, [some (.ref 0), some (.ref x1), some (.int x2), some (.int x3)], [], (mk B), B.kc, B.kn) res := by
  delta J_130_15_j55 at hr
  refine x_b 2 (S2 := (15, [some (.ref 0), some (.ref x1), some (.int x2), some (.int (x3 + 1))], [], (mk B), B.kc, B.kn)) rfl ?_
  refine x_fg (Lq.s (Lq.s (Lq.s (Lq.s Lq.nil)))) ?_
  exact ka ((x3 + 1), B) (Option.some.inj hr).symm
def G_130_15 (x1 : Nat) (x2 : Int32) (s : Int32 × Wd) : Option ((Int32 × Wd) ⊕ (Wd) ⊕ (Int32 × Wd)) := 
  match s with
  | (x3, B) =>
    if B.board.vertices ≤ x3 then
      some (.inr (.inl B))
    else
      (F_23 B.board x2 x3).bind fun v4 =>
      if v4 = 0 then
        J_130_15_j55 B x1 x2 x3
      else
        (B.fp x1).bind fun D6 =>
        (F_131 B x2 x3 x1).bind fun (v9, B10) =>
        if ¬ v9 = 0 then
          J_130_15_j55 B10 x1 x2 x3
        else
          some (.inr (.inr (((10 * x2) + x3), B10)))
theorem g_130_15 {d : Nat} (hd : 4 ≤ d) {scr : ASc} {res : ARe} {x1 : Nat} {x2 : Int32} {s : Int32 × Wd} {o : (Int32 × Wd) ⊕ (Wd) ⊕ (Int32 × Wd)} (hr : G_130_15 x1 x2 s = some o) (ka : ∀ s, o = .inl s → Ex d am_M130 scr (P_130_15 x1 x2 s) res) (kx : ∀ s, o = .inr (.inl s) → Ex d am_M130 scr (PX_130_15 x1 x2 s) res) (kr : ∀ r, o = .inr (.inr r) → res = (.inl (some (.int r.1)), mk r.2, Wd.kc r.2, Wd.kn r.2)) : Ex d am_M130 scr (P_130_15 x1 x2 s) res := by
  obtain ⟨x3, B⟩ := s
  delta G_130_15 at hr
  show Ex d am_M130 scr (15, [some (.ref 0), some (.ref x1), some (.int x2), some (.int x3)], [], (mk B), B.kc, B.kn) res
  refine x_b 1 (S2 := (16, [some (.ref 0), some (.ref x1), some (.int x2), some (.int x3)], [.int x3], (mk B), B.kc, B.kn)) rfl ?_
  refine x_ldan rfl rfl rfl ((rg_pp (W := B)).lt (i := 0) (show 0 < 1 by decide)) ?_
  refine x_getf rfl rfl ((rg_pp (W := B)).lt (i := 0) (show 0 < 1 by decide)) ((rg_pp (W := B)).at (i := 0) rfl) rfl ?_
  refine x_getf rfl rfl ((rg_board (W := B)).lt (i := 0) (show 0 < 6 by decide)) ((rg_board (W := B)).at (i := 0) rfl) rfl ?_
  rcases ite_some hr with ⟨h2, hr⟩ | ⟨h2, hr⟩
  · refine x_ct rfl rfl (decide_eq_true h2) ?_
    refine x_fg (Lq.s (Lq.s (Lq.s (Lq.n Lq.nil)))) ?_
    exact kx B (Option.some.inj hr).symm
  · refine x_cf rfl rfl (decide_eq_false h2) ?_
    refine x_ldan rfl rfl rfl ((rg_pp (W := B)).lt (i := 0) (show 0 < 1 by decide)) ?_
    refine x_getf rfl rfl ((rg_pp (W := B)).lt (i := 0) (show 0 < 1 by decide)) ((rg_pp (W := B)).at (i := 0) rfl) rfl ?_
    refine x_b 2 (S2 := (32, [some (.ref 0), some (.ref x1), some (.int x2), some (.int x3)], [.int x3, .int x2, .ref 1], (mk B), B.kc, B.kn)) rfl ?_
    obtain ⟨v4, h3, hr⟩ := bd_some hr
    refine x_cW (RnW.of0 (m_23 (rg_board (W := B)) h3) ⟨rfl, rfl⟩) rfl rfl rfl rfl (am_recv_v ((rg_board (W := B)).lt (i := 0) (show 0 < 6 by decide)) ((rg_board (W := B)).at (i := 0) rfl) rfl) (by omega) ?_
    rcases ite_some hr with ⟨h5, hr⟩ | ⟨h5, hr⟩
    · refine x_zt rfl rfl (decide_eq_true h5) ?_
      refine x_fg (Lq.s (Lq.s (Lq.s (Lq.s Lq.nil)))) ?_
      exact j_130_15_j55 hd hr ka kx kr
    · refine x_zf rfl rfl (decide_eq_false h5) ?_
      refine x_ldan rfl rfl rfl ((rg_pp (W := B)).lt (i := 0) (show 0 < 1 by decide)) ?_
      refine x_b 2 (S2 := (41, [some (.ref 0), some (.ref x1), some (.int x2), some (.int x3)], [.int x3, .int x2, .ref 0], (mk B), B.kc, B.kn)) rfl ?_
      obtain ⟨D6, h7, hr⟩ := bd_some hr
      refine x_ldan rfl rfl rfl ((rg_fp h7).lt (i := 0) (show 0 < 6 by decide)) ?_
      obtain ⟨⟨v9, B10⟩, h8, hr⟩ := bd_some hr
      refine x_cW (m_131 h8) rfl rfl rfl rfl (am_recv_v ((rg_pp (W := B)).lt (i := 0) (show 0 < 1 by decide)) ((rg_pp (W := B)).at (i := 0) rfl) rfl) (by omega) ?_
      rcases ite_some hr with ⟨h11, hr⟩ | ⟨h11, hr⟩
      · refine x_zt rfl rfl (decide_eq_true h11) ?_
        refine x_fg (Lq.s (Lq.s (Lq.s (Lq.s Lq.nil)))) ?_
        exact j_130_15_j55 hd hr ka kx kr
      · refine x_zf rfl rfl (decide_eq_false h11) ?_
        refine x_b 5 (S2 := (54, [some (.ref 0), some (.ref x1), some (.int x2), some (.int x3)], [.int ((10 * x2) + x3)], (mk B10), B10.kc, B10.kn)) rfl ?_
        rw [kr _ (Option.some.inj hr).symm]
        exact x_ret rfl rfl am_ret_i
def G_130_2 (x1 : Nat) (s : Int32 × Wd) : Option ((Int32 × Wd) ⊕ (Wd) ⊕ (Int32 × Wd)) := 
  match s with
  | (x2, B) =>
    if B.board.vertices ≤ x2 then
      some (.inr (.inl B))
    else
      (lw (G_130_15 x1 x2) 200000 (0, B)).bind fun r =>
        match r with
        | .inr r15 => some (.inr (.inr r15))
        | .inl B13 =>
          some (.inl ((x2 + 1), B13))
theorem g_130_2 {d : Nat} (hd : 4 ≤ d) {scr : ASc} {res : ARe} {x1 : Nat} {s : Int32 × Wd} {o : (Int32 × Wd) ⊕ (Wd) ⊕ (Int32 × Wd)} (hr : G_130_2 x1 s = some o) (ka : ∀ s, o = .inl s → Ex d am_M130 scr (P_130_2 x1 s) res) (kx : ∀ s, o = .inr (.inl s) → Ex d am_M130 scr (PX_130_2 x1 s) res) (kr : ∀ r, o = .inr (.inr r) → res = (.inl (some (.int r.1)), mk r.2, Wd.kc r.2, Wd.kn r.2)) : Ex d am_M130 scr (P_130_2 x1 s) res := by
  obtain ⟨x2, B⟩ := s
  delta G_130_2 at hr
  show Ex d am_M130 scr (2, [some (.ref 0), some (.ref x1), some (.int x2), none], [], (mk B), B.kc, B.kn) res
  refine x_b 1 (S2 := (3, [some (.ref 0), some (.ref x1), some (.int x2), none], [.int x2], (mk B), B.kc, B.kn)) rfl ?_
  refine x_ldan rfl rfl rfl ((rg_pp (W := B)).lt (i := 0) (show 0 < 1 by decide)) ?_
  refine x_getf rfl rfl ((rg_pp (W := B)).lt (i := 0) (show 0 < 1 by decide)) ((rg_pp (W := B)).at (i := 0) rfl) rfl ?_
  refine x_getf rfl rfl ((rg_board (W := B)).lt (i := 0) (show 0 < 6 by decide)) ((rg_board (W := B)).at (i := 0) rfl) rfl ?_
  rcases ite_some hr with ⟨h1, hr⟩ | ⟨h1, hr⟩
  · refine x_ct rfl rfl (decide_eq_true h1) ?_
    refine x_fg (Lq.n (Lq.n (Lq.n (Lq.s Lq.nil)))) ?_
    exact kx B (Option.some.inj hr).symm
  · refine x_cf rfl rfl (decide_eq_false h1) ?_
    refine x_b 2 (S2 := (15, [some (.ref 0), some (.ref x1), some (.int x2), some (.int 0)], [], (mk B), B.kc, B.kn)) rfl ?_
    refine x_fg (Lq.s (Lq.s (Lq.s (Lq.s Lq.nil)))) ?_
    obtain ⟨o14, h12, hr⟩ := bd_some hr
    refine x_lw (P := P_130_15 x1 x2) (Q := fun x => match x with | .inl e => Ex d am_M130 scr (PX_130_15 x1 x2 e) res | .inr r => res = (.inl (some (.int r.1)), mk r.2, Wd.kc r.2, Wd.kn r.2)) (fun s o h1 ka kx => g_130_15 hd h1 ka (fun e he => kx (.inl e) he) (fun r he => kx (.inr r) he)) _ (0, B) _ h12 ?_
    rcases o14 with B13 | r15
    · show Ex d am_M130 scr (61, [some (.ref 0), some (.ref x1), some (.int x2), none], [], (mk B13), B13.kc, B13.kn) res
      refine x_b 2 (S2 := (2, [some (.ref 0), some (.ref x1), some (.int (x2 + 1)), none], [], (mk B13), B13.kc, B13.kn)) rfl ?_
      refine x_fg (Lq.s (Lq.s (Lq.s (Lq.s Lq.nil)))) ?_
      exact ka ((x2 + 1), B13) (Option.some.inj hr).symm
    · exact kr _ (Option.some.inj hr).symm
/-- PebbleProofs.firstMove(LPebbleProofs$FailingPiles;)I -/
def F_130 (B : Wd) (x1 : Nat) : Option (Int32 × Wd) :=
  (lw (G_130_2 x1) 200000 (0, B)).bind fun r =>
    match r with
    | .inr r19 => some r19
    | .inl B17 =>
      some ((-1), B17)
theorem f_130 {d : Nat} (hd : 4 ≤ d) {scr : ASc} {res : ARe} {B : Wd} {x1 : Nat} {o : Int32 × Wd} (hr : F_130 B x1 = some o) (kr : res = (.inl (some (.int o.1)), mk o.2, Wd.kc o.2, Wd.kn o.2)) : Ex d am_M130 scr (0, [some (.ref 0), some (.ref x1), none, none], [], (mk B), B.kc, B.kn) res := by
  delta F_130 at hr
  refine x_b 2 (S2 := (2, [some (.ref 0), some (.ref x1), some (.int 0), none], [], (mk B), B.kc, B.kn)) rfl ?_
  refine x_fg (Lq.s (Lq.s (Lq.s (Lq.s Lq.nil)))) ?_
  obtain ⟨o18, h16, hr⟩ := bd_some hr
  refine x_lw (P := P_130_2 x1) (Q := fun x => match x with | .inl e => Ex d am_M130 scr (PX_130_2 x1 e) res | .inr r => res = (.inl (some (.int r.1)), mk r.2, Wd.kc r.2, Wd.kn r.2)) (fun s o h1 ka kx => g_130_2 hd h1 ka (fun e he => kx (.inl e) he) (fun r he => kx (.inr r) he)) _ (0, B) _ h16 ?_
  rcases o18 with B17 | r19
  · show Ex d am_M130 scr (67, [none, none, none, none], [], (mk B17), B17.kc, B17.kn) res
    refine x_b 1 (S2 := (68, [none, none, none, none], [.int (-1)], (mk B17), B17.kc, B17.kn)) rfl ?_
    cases hr
    rw [kr]
    exact x_ret rfl rfl am_ret_i
  · cases hr; exact kr
theorem m_130 {scr : ASc} {B : Wd} {x1 : Nat} {o : Int32 × Wd} (hr : F_130 B x1 = some o) : RnW scr 5 130 [.ref 0, .ref x1] B (.inl (some (.int o.1))) o.2 :=
  x_methW (M := am_M130) rfl (show 2 ≤ 4 by decide) (f_130 (Nat.le_refl _) hr rfl)
abbrev P_89_44 (x1 : Int32) (x2 : Nat) (s : Int32 × Wd) : ASt := (44, [some (.ref 0), some (.int x1), some (.ref x2), some (.int s.1), none], [], (mk s.2), Wd.kc s.2, Wd.kn s.2)
abbrev PX_89_44 (x1 : Int32) (x2 : Nat) (s : Int32 × Wd) : ASt := (102, [none, none, none, some (.int s.1), none], [], (mk s.2), Wd.kc s.2, Wd.kn s.2)
def G_89_44 (x1 : Int32) (x2 : Nat) (s : Int32 × Wd) : Option ((Int32 × Wd) ⊕ (Int32 × Wd)) := 
  match s with
  | (x3, B) =>
    (ix x1 6).bind fun i16 =>
    if ¬ (B.board.pile i16) = 0 then
      some (.inr (x3, B))
    else
      if 5994 ≤ x3 then
        some (.inr (x3, B))
      else
        (B.fp x2).bind fun D20 =>
        (F_130 B x2).bind fun (v23, B24) =>
        if ¬ v23 = (-1) then
          (F_24 B24.board (v23 / 10) (v23 - v23 / 10 * 10)).bind fun o27 =>
          (some (B24.w_board o27)).bind fun B28 =>
          some (.inl ((x3 + 1), B28))
        else
          some (.inr (x3, B24))
theorem g_89_44 {d : Nat} (hd : 8 ≤ d) {scr : ASc} {res : ARe} {x1 : Int32} {x2 : Nat} {s : Int32 × Wd} {o : (Int32 × Wd) ⊕ (Int32 × Wd)} (hr : G_89_44 x1 x2 s = some o) (ka : ∀ s, o = .inl s → Ex d am_M89 scr (P_89_44 x1 x2 s) res) (kx : ∀ s, o = .inr s → Ex d am_M89 scr (PX_89_44 x1 x2 s) res) : Ex d am_M89 scr (P_89_44 x1 x2 s) res := by
  obtain ⟨x3, B⟩ := s
  delta G_89_44 at hr
  show Ex d am_M89 scr (44, [some (.ref 0), some (.int x1), some (.ref x2), some (.int x3), none], [], (mk B), B.kc, B.kn) res
  refine x_ldan rfl rfl rfl ((rg_pp (W := B)).lt (i := 0) (show 0 < 1 by decide)) ?_
  refine x_getf rfl rfl ((rg_pp (W := B)).lt (i := 0) (show 0 < 1 by decide)) ((rg_pp (W := B)).at (i := 0) rfl) rfl ?_
  refine x_getf rfl rfl ((rg_board (W := B)).lt (i := 0) (show 0 < 6 by decide)) ((rg_board (W := B)).at (i := 0) rfl) rfl ?_
  refine x_b 1 (S2 := (52, [some (.ref 0), some (.int x1), some (.ref x2), some (.int x3), none], [.int x1, .ref (1 + 1)], (mk B), B.kc, B.kn)) rfl ?_
  obtain ⟨i16, h17, hr⟩ := bd_some hr
  refine x_iald rfl rfl ((rg_board (W := B)).lt (i := 1) (show 1 < 6 by decide)) ((rg_board (W := B)).at (i := 1) rfl) h17 ?_
  rcases ite_some hr with ⟨h18, hr⟩ | ⟨h18, hr⟩
  · refine x_zt rfl rfl (decide_eq_true h18) ?_
    refine x_fg (Lq.n (Lq.n (Lq.n (Lq.s (Lq.s Lq.nil))))) ?_
    exact kx (x3, B) (Option.some.inj hr).symm
  · refine x_zf rfl rfl (decide_eq_false h18) ?_
    refine x_b 2 (S2 := (60, [some (.ref 0), some (.int x1), some (.ref x2), some (.int x3), none], [.int 5994, .int x3], (mk B), B.kc, B.kn)) rfl ?_
    rcases ite_some hr with ⟨h19, hr⟩ | ⟨h19, hr⟩
    · refine x_ct rfl rfl (decide_eq_true h19) ?_
      refine x_fg (Lq.n (Lq.n (Lq.n (Lq.s (Lq.s Lq.nil))))) ?_
      exact kx (x3, B) (Option.some.inj hr).symm
    · refine x_cf rfl rfl (decide_eq_false h19) ?_
      refine x_ldan rfl rfl rfl ((rg_pp (W := B)).lt (i := 0) (show 0 < 1 by decide)) ?_
      obtain ⟨D20, h21, hr⟩ := bd_some hr
      refine x_ldan rfl rfl rfl ((rg_fp h21).lt (i := 0) (show 0 < 6 by decide)) ?_
      obtain ⟨⟨v23, B24⟩, h22, hr⟩ := bd_some hr
      refine x_cW (m_130 h22) rfl rfl rfl rfl (am_recv_v ((rg_pp (W := B)).lt (i := 0) (show 0 < 1 by decide)) ((rg_pp (W := B)).at (i := 0) rfl) rfl) (by omega) ?_
      refine x_b 3 (S2 := (73, [some (.ref 0), some (.int x1), some (.ref x2), some (.int x3), some (.int v23)], [.int (-1), .int v23], (mk B24), B24.kc, B24.kn)) rfl ?_
      rcases ite_some hr with ⟨h25, hr⟩ | ⟨h25, hr⟩
      · refine x_ct rfl rfl (decide_eq_true h25) ?_
        refine x_ldan rfl rfl rfl ((rg_pp (W := B24)).lt (i := 0) (show 0 < 1 by decide)) ?_
        refine x_getf rfl rfl ((rg_pp (W := B24)).lt (i := 0) (show 0 < 1 by decide)) ((rg_pp (W := B24)).at (i := 0) rfl) rfl ?_
        refine x_b 2 (S2 := (87, [some (.ref 0), some (.int x1), some (.ref x2), some (.int x3), some (.int v23)], [.int 10, .int v23, .ref 1], (mk B24), B24.kc, B24.kn)) rfl ?_
        refine x_div rfl rfl (by decide) ?_
        refine x_b 2 (S2 := (92, [some (.ref 0), some (.int x1), some (.ref x2), some (.int x3), some (.int v23)], [.int 10, .int v23, .int (v23 / 10), .ref 1], (mk B24), B24.kc, B24.kn)) rfl ?_
        refine x_rem rfl rfl (by decide) ?_
        obtain ⟨o27, h26, hr⟩ := bd_some hr
        obtain ⟨B28, h29, hr⟩ := bd_some hr
        refine x_cW (wc_board (fun H hb hh hH => m_24 hb hh h26) h29) rfl rfl rfl rfl (am_recv_v ((rg_board (W := B24)).lt (i := 0) (show 0 < 6 by decide)) ((rg_board (W := B24)).at (i := 0) rfl) rfl) (by omega) ?_
        refine x_b 2 (S2 := (44, [some (.ref 0), some (.int x1), some (.ref x2), some (.int (x3 + 1)), some (.int v23)], [], (mk B28), B28.kc, B28.kn)) rfl ?_
        refine x_fg (Lq.s (Lq.s (Lq.s (Lq.s (Lq.n Lq.nil))))) ?_
        exact ka ((x3 + 1), B28) (Option.some.inj hr).symm
      · refine x_cf rfl rfl (decide_eq_false h25) ?_
        refine x_b 1 (S2 := (102, [some (.ref 0), some (.int x1), some (.ref x2), some (.int x3), some (.int v23)], [], (mk B24), B24.kc, B24.kn)) rfl ?_
        refine x_fg (Lq.n (Lq.n (Lq.n (Lq.s (Lq.n Lq.nil))))) ?_
        exact kx (x3, B24) (Option.some.inj hr).symm
def J_89_0_j102 (B : Wd) (x3 : Int32) : Option ((Int32 ⊕ Nat) × Wd) :=
  some (.inl x3, B)
theorem j_89_0_j102 {d : Nat} (hd : 8 ≤ d) {scr : ASc} {res : ARe} {B : Wd} {x3 : Int32} {o : (Int32 ⊕ Nat) × Wd} (hr : J_89_0_j102 B x3 = some o) (kr : res = (xI o.1, mk o.2, Wd.kc o.2, Wd.kn o.2)) : Ex d am_M89 scr (102, [none, none, none, some (.int x3), none], [], (mk B), B.kc, B.kn) res := by
  delta J_89_0_j102 at hr
  refine x_b 1 (S2 := (103, [none, none, none, some (.int x3), none], [.int x3], (mk B), B.kc, B.kn)) rfl ?_
  cases hr
  rw [kr]
  exact x_ret rfl rfl am_ret_i
def J_89_0_j31 (B : Wd) (x1 : Int32) (x2 : Nat) : Option ((Int32 ⊕ Nat) × Wd) :=
  (F_50 B).bind fun B15 =>
  (lw (G_89_44 x1 x2) 200000 (0, B15)).bind fun (v31, B32) =>
  J_89_0_j102 B32 v31
theorem j_89_0_j31 {d : Nat} (hd : 8 ≤ d) {scr : ASc} {res : ARe} {B : Wd} {x1 : Int32} {x2 : Nat} {o : (Int32 ⊕ Nat) × Wd} (hr : J_89_0_j31 B x1 x2 = some o) (kr : res = (xI o.1, mk o.2, Wd.kc o.2, Wd.kn o.2)) : Ex d am_M89 scr (31, [some (.ref 0), some (.int x1), some (.ref x2), none, none], [], (mk B), B.kc, B.kn) res := by
  delta J_89_0_j31 at hr
  refine x_ldan rfl rfl rfl ((rg_pp (W := B)).lt (i := 0) (show 0 < 1 by decide)) ?_
  refine x_getf rfl rfl ((rg_pp (W := B)).lt (i := 0) (show 0 < 1 by decide)) ((rg_pp (W := B)).at (i := 0) rfl) rfl ?_
  refine x_ldan rfl rfl rfl ((rg_pp (W := B)).lt (i := 0) (show 0 < 1 by decide)) ?_
  refine x_getf rfl rfl ((rg_pp (W := B)).lt (i := 0) (show 0 < 1 by decide)) ((rg_pp (W := B)).at (i := 0) rfl) rfl ?_
  obtain ⟨B15, h14, hr⟩ := bd_some hr
  refine x_cW (m_50 h14) rfl rfl rfl rfl (am_recv_v ((rg_hist (W := B)).lt (i := 0) (show 0 < 2 by decide)) ((rg_hist (W := B)).at (i := 0) rfl) rfl) (by omega) ?_
  refine x_b 2 (S2 := (44, [some (.ref 0), some (.int x1), some (.ref x2), some (.int 0), none], [], (mk B15), B15.kc, B15.kn)) rfl ?_
  refine x_fg (Lq.s (Lq.s (Lq.s (Lq.s (Lq.s Lq.nil))))) ?_
  obtain ⟨o33, h30, hr⟩ := bd_some hr
  refine x_lw (P := P_89_44 x1 x2) (Q := fun x => Ex d am_M89 scr (PX_89_44 x1 x2 x) res) (fun s o h1 ka kx => g_89_44 hd h1 ka kx) _ (0, B15) _ h30 ?_
  obtain ⟨v31, B32⟩ := o33
  show Ex d am_M89 scr (102, [none, none, none, some (.int v31), none], [], (mk B32), B32.kc, B32.kn) res
  refine x_fg (Lq.s (Lq.s (Lq.s (Lq.s (Lq.s Lq.nil))))) ?_
  exact j_89_0_j102 hd hr kr
/-- PebbleProofs.reach(I)I -/
def F_89 (B : Wd) (x1 : Int32) : Option ((Int32 ⊕ Nat) × Wd) :=
  (F_124 B x1).bind fun (r2, B3) =>
  xq r2 (fun X4 =>
    some (.inr X4, B3)) fun u5 =>
  (F_129 B3 x1).bind fun (a7, B8) =>
  (B8.fp a7).bind fun D9 =>
  (F_43 B8 a7).bind fun v12 =>
  if v12 = 0 then
    J_89_0_j31 B8 x1 a7
  else
    (F_128 B8 6).bind fun (r35, B36) =>
    xq r35 (fun X37 =>
      some (.inr X37, B36)) fun u38 =>
    J_89_0_j31 B36 x1 a7
theorem f_89 {d : Nat} (hd : 8 ≤ d) {scr : ASc} {res : ARe} {B : Wd} {x1 : Int32} {o : (Int32 ⊕ Nat) × Wd} (hr : F_89 B x1 = some o) (kr : res = (xI o.1, mk o.2, Wd.kc o.2, Wd.kn o.2)) : Ex d am_M89 scr (0, [some (.ref 0), some (.int x1), none, none, none], [], (mk B), B.kc, B.kn) res := by
  delta F_89 at hr
  refine x_ldan rfl rfl rfl ((rg_pp (W := B)).lt (i := 0) (show 0 < 1 by decide)) ?_
  refine x_b 1 (S2 := (2, [some (.ref 0), some (.int x1), none, none, none], [.int x1, .ref 0], (mk B), B.kc, B.kn)) rfl ?_
  obtain ⟨⟨r2, B3⟩, h1, hr⟩ := bd_some hr
  have hr9 := xq_some hr
  clear hr
  rcases hr9 with ⟨X4, rfl, hr⟩ | ⟨u5, rfl, hr⟩
  · cases hr
    rw [kr]
    exact x_cX (m_124 h1) rfl rfl rfl rfl (am_recv_v ((rg_pp (W := B)).lt (i := 0) (show 0 < 1 by decide)) ((rg_pp (W := B)).at (i := 0) rfl) rfl) (by omega) rfl
  refine x_cW (m_124 h1) rfl rfl rfl rfl (am_recv_v ((rg_pp (W := B)).lt (i := 0) (show 0 < 1 by decide)) ((rg_pp (W := B)).at (i := 0) rfl) rfl) (by omega) ?_
  refine x_ldan rfl rfl rfl ((rg_pp (W := B3)).lt (i := 0) (show 0 < 1 by decide)) ?_
  refine x_b 1 (S2 := (7, [some (.ref 0), some (.int x1), none, none, none], [.int x1, .ref 0], (mk B3), B3.kc, B3.kn)) rfl ?_
  obtain ⟨⟨a7, B8⟩, h6, hr⟩ := bd_some hr
  refine x_cW (m_129 h6) rfl rfl rfl rfl (am_recv_v ((rg_pp (W := B3)).lt (i := 0) (show 0 < 1 by decide)) ((rg_pp (W := B3)).at (i := 0) rfl) rfl) (by omega) ?_
  obtain ⟨D9, h10, hr⟩ := bd_some hr
  refine x_stan rfl rfl (show 2 < 5 by decide) (lt_ne ((rg_fp h10).lt (i := 0) (show 0 < 6 by decide))) rfl ?_
  refine x_ldan rfl rfl rfl ((rg_fp h10).lt (i := 0) (show 0 < 6 by decide)) ?_
  refine x_ldan rfl rfl rfl ((rg_pp (W := B8)).lt (i := 0) (show 0 < 1 by decide)) ?_
  refine x_getf rfl rfl ((rg_pp (W := B8)).lt (i := 0) (show 0 < 1 by decide)) ((rg_pp (W := B8)).at (i := 0) rfl) rfl ?_
  refine x_getf rfl rfl ((rg_board (W := B8)).lt (i := 0) (show 0 < 6 by decide)) ((rg_board (W := B8)).at (i := 0) rfl) rfl ?_
  obtain ⟨v12, h11, hr⟩ := bd_some hr
  refine x_cW (m_43 h11) rfl rfl rfl rfl (am_recv_v ((rg_fp h10).lt (i := 0) (show 0 < 6 by decide)) ((rg_fp h10).at (i := 0) rfl) rfl) (by omega) ?_
  rcases ite_some hr with ⟨h13, hr⟩ | ⟨h13, hr⟩
  · refine x_zt rfl rfl (decide_eq_true h13) ?_
    refine x_fg (Lq.s (Lq.s (Lq.s (Lq.s (Lq.s Lq.nil))))) ?_
    exact j_89_0_j31 hd hr kr
  · refine x_zf rfl rfl (decide_eq_false h13) ?_
    refine x_ldan rfl rfl rfl ((rg_pp (W := B8)).lt (i := 0) (show 0 < 1 by decide)) ?_
    refine x_b 1 (S2 := (28, [some (.ref 0), some (.int x1), some (.ref a7), none, none], [.int 6, .ref 0], (mk B8), B8.kc, B8.kn)) rfl ?_
    obtain ⟨⟨r35, B36⟩, h34, hr⟩ := bd_some hr
    have hr9 := xq_some hr
    clear hr
    rcases hr9 with ⟨X37, rfl, hr⟩ | ⟨u38, rfl, hr⟩
    · cases hr
      rw [kr]
      exact x_cX (m_128 h34) rfl rfl rfl rfl (am_recv_v ((rg_pp (W := B8)).lt (i := 0) (show 0 < 1 by decide)) ((rg_pp (W := B8)).at (i := 0) rfl) rfl) (by omega) rfl
    refine x_cW (m_128 h34) rfl rfl rfl rfl (am_recv_v ((rg_pp (W := B8)).lt (i := 0) (show 0 < 1 by decide)) ((rg_pp (W := B8)).at (i := 0) rfl) rfl) (by omega) ?_
    refine x_fg (Lq.s (Lq.s (Lq.s (Lq.s (Lq.s Lq.nil))))) ?_
    exact j_89_0_j31 hd hr kr
theorem m_89 {scr : ASc} {B : Wd} {x1 : Int32} {o : (Int32 ⊕ Nat) × Wd} (hr : F_89 B x1 = some o) : RnW scr 9 89 [.ref 0, .int x1] B (xI o.1) o.2 :=
  x_methW (M := am_M89) rfl (show 2 ≤ 5 by decide) (f_89 (Nat.le_refl _) hr rfl)
def J_90_0_j23 (B : Wd) (x1 : Int32) : Option ((Int32 ⊕ Nat) × Wd) :=
  (F_50 B).bind fun B8 =>
  (F_25 B8.board x1).bind fun o10 =>
  (some (B8.w_board o10)).bind fun B11 =>
  some (.inl (B11.board.strategyCount - 1), B11)
theorem j_90_0_j23 {d : Nat} (hd : 8 ≤ d) {scr : ASc} {res : ARe} {B : Wd} {x1 : Int32} {o : (Int32 ⊕ Nat) × Wd} (hr : J_90_0_j23 B x1 = some o) (kr : res = (xI o.1, mk o.2, Wd.kc o.2, Wd.kn o.2)) : Ex d am_M90 scr (23, [some (.ref 0), some (.int x1)], [], (mk B), B.kc, B.kn) res := by
  delta J_90_0_j23 at hr
  refine x_ldan rfl rfl rfl ((rg_pp (W := B)).lt (i := 0) (show 0 < 1 by decide)) ?_
  refine x_getf rfl rfl ((rg_pp (W := B)).lt (i := 0) (show 0 < 1 by decide)) ((rg_pp (W := B)).at (i := 0) rfl) rfl ?_
  refine x_ldan rfl rfl rfl ((rg_pp (W := B)).lt (i := 0) (show 0 < 1 by decide)) ?_
  refine x_getf rfl rfl ((rg_pp (W := B)).lt (i := 0) (show 0 < 1 by decide)) ((rg_pp (W := B)).at (i := 0) rfl) rfl ?_
  obtain ⟨B8, h7, hr⟩ := bd_some hr
  refine x_cW (m_50 h7) rfl rfl rfl rfl (am_recv_v ((rg_hist (W := B)).lt (i := 0) (show 0 < 2 by decide)) ((rg_hist (W := B)).at (i := 0) rfl) rfl) (by omega) ?_
  refine x_ldan rfl rfl rfl ((rg_pp (W := B8)).lt (i := 0) (show 0 < 1 by decide)) ?_
  refine x_getf rfl rfl ((rg_pp (W := B8)).lt (i := 0) (show 0 < 1 by decide)) ((rg_pp (W := B8)).at (i := 0) rfl) rfl ?_
  refine x_b 1 (S2 := (39, [some (.ref 0), some (.int x1)], [.int x1, .ref 1], (mk B8), B8.kc, B8.kn)) rfl ?_
  obtain ⟨o10, h9, hr⟩ := bd_some hr
  obtain ⟨B11, h12, hr⟩ := bd_some hr
  refine x_cW (wc_board (fun H hb hh hH => m_25 hb hh h9) h12) rfl rfl rfl rfl (am_recv_v ((rg_board (W := B8)).lt (i := 0) (show 0 < 6 by decide)) ((rg_board (W := B8)).at (i := 0) rfl) rfl) (by omega) ?_
  refine x_ldan rfl rfl rfl ((rg_pp (W := B11)).lt (i := 0) (show 0 < 1 by decide)) ?_
  refine x_getf rfl rfl ((rg_pp (W := B11)).lt (i := 0) (show 0 < 1 by decide)) ((rg_pp (W := B11)).at (i := 0) rfl) rfl ?_
  refine x_getf rfl rfl ((rg_board (W := B11)).lt (i := 0) (show 0 < 6 by decide)) ((rg_board (W := B11)).at (i := 0) rfl) rfl ?_
  refine x_b 2 (S2 := (51, [some (.ref 0), some (.int x1)], [.int (B11.board.strategyCount - 1)], (mk B11), B11.kc, B11.kn)) rfl ?_
  cases hr
  rw [kr]
  exact x_ret rfl rfl am_ret_i
/-- PebbleProofs.addStrategy(I)I -/
def F_90 (B : Wd) (x1 : Int32) : Option ((Int32 ⊕ Nat) × Wd) :=
  (F_124 B x1).bind fun (r2, B3) =>
  xq r2 (fun X4 =>
    some (.inr X4, B3)) fun u5 =>
  if B3.board.strategyCount < 6 then
    J_90_0_j23 B3 x1
  else
    (F_128 B3 7).bind fun (r14, B15) =>
    xq r14 (fun X16 =>
      some (.inr X16, B15)) fun u17 =>
    J_90_0_j23 B15 x1
theorem f_90 {d : Nat} (hd : 8 ≤ d) {scr : ASc} {res : ARe} {B : Wd} {x1 : Int32} {o : (Int32 ⊕ Nat) × Wd} (hr : F_90 B x1 = some o) (kr : res = (xI o.1, mk o.2, Wd.kc o.2, Wd.kn o.2)) : Ex d am_M90 scr (0, [some (.ref 0), some (.int x1)], [], (mk B), B.kc, B.kn) res := by
  delta F_90 at hr
  refine x_ldan rfl rfl rfl ((rg_pp (W := B)).lt (i := 0) (show 0 < 1 by decide)) ?_
  refine x_b 1 (S2 := (2, [some (.ref 0), some (.int x1)], [.int x1, .ref 0], (mk B), B.kc, B.kn)) rfl ?_
  obtain ⟨⟨r2, B3⟩, h1, hr⟩ := bd_some hr
  have hr9 := xq_some hr
  clear hr
  rcases hr9 with ⟨X4, rfl, hr⟩ | ⟨u5, rfl, hr⟩
  · cases hr
    rw [kr]
    exact x_cX (m_124 h1) rfl rfl rfl rfl (am_recv_v ((rg_pp (W := B)).lt (i := 0) (show 0 < 1 by decide)) ((rg_pp (W := B)).at (i := 0) rfl) rfl) (by omega) rfl
  refine x_cW (m_124 h1) rfl rfl rfl rfl (am_recv_v ((rg_pp (W := B)).lt (i := 0) (show 0 < 1 by decide)) ((rg_pp (W := B)).at (i := 0) rfl) rfl) (by omega) ?_
  refine x_ldan rfl rfl rfl ((rg_pp (W := B3)).lt (i := 0) (show 0 < 1 by decide)) ?_
  refine x_getf rfl rfl ((rg_pp (W := B3)).lt (i := 0) (show 0 < 1 by decide)) ((rg_pp (W := B3)).at (i := 0) rfl) rfl ?_
  refine x_getf rfl rfl ((rg_board (W := B3)).lt (i := 0) (show 0 < 6 by decide)) ((rg_board (W := B3)).at (i := 0) rfl) rfl ?_
  refine x_b 1 (S2 := (14, [some (.ref 0), some (.int x1)], [.int 6, .int B3.board.strategyCount], (mk B3), B3.kc, B3.kn)) rfl ?_
  rcases ite_some hr with ⟨h6, hr⟩ | ⟨h6, hr⟩
  · refine x_ct rfl rfl (decide_eq_true h6) ?_
    refine x_fg (Lq.s (Lq.s Lq.nil)) ?_
    exact j_90_0_j23 hd hr kr
  · refine x_cf rfl rfl (decide_eq_false h6) ?_
    refine x_ldan rfl rfl rfl ((rg_pp (W := B3)).lt (i := 0) (show 0 < 1 by decide)) ?_
    refine x_b 1 (S2 := (20, [some (.ref 0), some (.int x1)], [.int 7, .ref 0], (mk B3), B3.kc, B3.kn)) rfl ?_
    obtain ⟨⟨r14, B15⟩, h13, hr⟩ := bd_some hr
    have hr9 := xq_some hr
    clear hr
    rcases hr9 with ⟨X16, rfl, hr⟩ | ⟨u17, rfl, hr⟩
    · cases hr
      rw [kr]
      exact x_cX (m_128 h13) rfl rfl rfl rfl (am_recv_v ((rg_pp (W := B3)).lt (i := 0) (show 0 < 1 by decide)) ((rg_pp (W := B3)).at (i := 0) rfl) rfl) (by omega) rfl
    refine x_cW (m_128 h13) rfl rfl rfl rfl (am_recv_v ((rg_pp (W := B3)).lt (i := 0) (show 0 < 1 by decide)) ((rg_pp (W := B3)).at (i := 0) rfl) rfl) (by omega) ?_
    refine x_fg (Lq.s (Lq.s Lq.nil)) ?_
    exact j_90_0_j23 hd hr kr
theorem m_90 {scr : ASc} {B : Wd} {x1 : Int32} {o : (Int32 ⊕ Nat) × Wd} (hr : F_90 B x1 = some o) : RnW scr 9 90 [.ref 0, .int x1] B (xI o.1) o.2 :=
  x_methW (M := am_M90) rfl (show 2 ≤ 2 by decide) (f_90 (Nat.le_refl _) hr rfl)
def J_126_0_j15 (B : Wd) : Option ((Unit ⊕ Nat) × Wd) :=
  some (.inr 2, B.thr)
theorem j_126_0_j15 {d : Nat} (hd : 7 ≤ d) {scr : ASc} {res : ARe} {B : Wd} {o : (Unit ⊕ Nat) × Wd} (hr : J_126_0_j15 B = some o) (kr : res = (xU o.1, mk o.2, Wd.kc o.2, Wd.kn o.2)) : Ex d am_M126 scr (15, [none, none], [], (mk B), B.kc, B.kn) res := by
  delta J_126_0_j15 at hr
  cases hr
  rw [kr]
  exact x_thr rfl (by decide) (by omega) (by decide) rfl
/-- PebbleProofs.needStrategy(I)V -/
def F_126 (B : Wd) (x1 : Int32) : Option ((Unit ⊕ Nat) × Wd) :=
  if x1 < 0 then
    J_126_0_j15 B
  else
    if x1 < B.board.strategyCount then
      some (.inl (), B)
    else
      J_126_0_j15 B
theorem f_126 {d : Nat} (hd : 7 ≤ d) {scr : ASc} {res : ARe} {B : Wd} {x1 : Int32} {o : (Unit ⊕ Nat) × Wd} (hr : F_126 B x1 = some o) (kr : res = (xU o.1, mk o.2, Wd.kc o.2, Wd.kn o.2)) : Ex d am_M126 scr (0, [some (.ref 0), some (.int x1)], [], (mk B), B.kc, B.kn) res := by
  delta F_126 at hr
  refine x_b 1 (S2 := (1, [some (.ref 0), some (.int x1)], [.int x1], (mk B), B.kc, B.kn)) rfl ?_
  rcases ite_some hr with ⟨h1, hr⟩ | ⟨h1, hr⟩
  · refine x_zt rfl rfl (decide_eq_true h1) ?_
    refine x_fg (Lq.n (Lq.n Lq.nil)) ?_
    exact j_126_0_j15 hd hr kr
  · refine x_zf rfl rfl (decide_eq_false h1) ?_
    refine x_b 1 (S2 := (5, [some (.ref 0), some (.int x1)], [.int x1], (mk B), B.kc, B.kn)) rfl ?_
    refine x_ldan rfl rfl rfl ((rg_pp (W := B)).lt (i := 0) (show 0 < 1 by decide)) ?_
    refine x_getf rfl rfl ((rg_pp (W := B)).lt (i := 0) (show 0 < 1 by decide)) ((rg_pp (W := B)).at (i := 0) rfl) rfl ?_
    refine x_getf rfl rfl ((rg_board (W := B)).lt (i := 0) (show 0 < 6 by decide)) ((rg_board (W := B)).at (i := 0) rfl) rfl ?_
    rcases ite_some hr with ⟨h2, hr⟩ | ⟨h2, hr⟩
    · refine x_ct rfl rfl (decide_eq_true h2) ?_
      cases hr
      rw [kr]
      exact x_ret rfl rfl rfl
    · refine x_cf rfl rfl (decide_eq_false h2) ?_
      refine x_fg (Lq.n (Lq.n Lq.nil)) ?_
      exact j_126_0_j15 hd hr kr
theorem m_126 {scr : ASc} {B : Wd} {x1 : Int32} {o : (Unit ⊕ Nat) × Wd} (hr : F_126 B x1 = some o) : RnW scr 8 126 [.ref 0, .int x1] B (xU o.1) o.2 :=
  x_methW (M := am_M126) rfl (show 2 ≤ 2 by decide) (f_126 (Nat.le_refl _) hr rfl)
def J_91_0_j40 (B : Wd) : Option ((Int32 ⊕ Nat) × Wd) :=
  some (.inr 1, B.thr)
theorem j_91_0_j40 {d : Nat} (hd : 8 ≤ d) {scr : ASc} {res : ARe} {B : Wd} {o : (Int32 ⊕ Nat) × Wd} (hr : J_91_0_j40 B = some o) (kr : res = (xI o.1, mk o.2, Wd.kc o.2, Wd.kn o.2)) : Ex d am_M91 scr (40, [none, none, none, none, none, none], [], (mk B), B.kc, B.kn) res := by
  delta J_91_0_j40 at hr
  cases hr
  rw [kr]
  exact x_thr rfl (by decide) (by omega) (by decide) rfl
/-- PebbleProofs.weigh(IIII)I -/
def F_91 (B : Wd) (x1 : Int32) (x2 : Int32) (x3 : Int32) (x4 : Int32) : Option ((Int32 ⊕ Nat) × Wd) :=
  (F_126 B x1).bind fun (r2, B3) =>
  xq r2 (fun X4 =>
    some (.inr X4, B3)) fun u5 =>
  (F_124 B3 x2).bind fun (r7, B8) =>
  xq r7 (fun X9 =>
    some (.inr X9, B8)) fun u10 =>
  (F_124 B8 x3).bind fun (r12, B13) =>
  xq r12 (fun X14 =>
    some (.inr X14, B13)) fun u15 =>
  if x4 < 0 then
    J_91_0_j40 B13
  else
    if 64 < x4 then
      J_91_0_j40 B13
    else
      (ix x1 6).bind fun i18 =>
      if ¬ x2 = (B13.board.targets i18) then
        (F_50 B13).bind fun B22 =>
        (F_28 B22.board x1 x2).bind fun v24 =>
        (F_27 B22.board x1 x2 x3 x4).bind fun o26 =>
        (some (B22.w_board o26)).bind fun B27 =>
        some (.inl v24, B27)
      else
        J_91_0_j40 B13
theorem f_91 {d : Nat} (hd : 8 ≤ d) {scr : ASc} {res : ARe} {B : Wd} {x1 : Int32} {x2 : Int32} {x3 : Int32} {x4 : Int32} {o : (Int32 ⊕ Nat) × Wd} (hr : F_91 B x1 x2 x3 x4 = some o) (kr : res = (xI o.1, mk o.2, Wd.kc o.2, Wd.kn o.2)) : Ex d am_M91 scr (0, [some (.ref 0), some (.int x1), some (.int x2), some (.int x3), some (.int x4), none], [], (mk B), B.kc, B.kn) res := by
  delta F_91 at hr
  refine x_ldan rfl rfl rfl ((rg_pp (W := B)).lt (i := 0) (show 0 < 1 by decide)) ?_
  refine x_b 1 (S2 := (2, [some (.ref 0), some (.int x1), some (.int x2), some (.int x3), some (.int x4), none], [.int x1, .ref 0], (mk B), B.kc, B.kn)) rfl ?_
  obtain ⟨⟨r2, B3⟩, h1, hr⟩ := bd_some hr
  have hr9 := xq_some hr
  clear hr
  rcases hr9 with ⟨X4, rfl, hr⟩ | ⟨u5, rfl, hr⟩
  · cases hr
    rw [kr]
    exact x_cX (m_126 h1) rfl rfl rfl rfl (am_recv_v ((rg_pp (W := B)).lt (i := 0) (show 0 < 1 by decide)) ((rg_pp (W := B)).at (i := 0) rfl) rfl) (by omega) rfl
  refine x_cW (m_126 h1) rfl rfl rfl rfl (am_recv_v ((rg_pp (W := B)).lt (i := 0) (show 0 < 1 by decide)) ((rg_pp (W := B)).at (i := 0) rfl) rfl) (by omega) ?_
  refine x_ldan rfl rfl rfl ((rg_pp (W := B3)).lt (i := 0) (show 0 < 1 by decide)) ?_
  refine x_b 1 (S2 := (7, [some (.ref 0), some (.int x1), some (.int x2), some (.int x3), some (.int x4), none], [.int x2, .ref 0], (mk B3), B3.kc, B3.kn)) rfl ?_
  obtain ⟨⟨r7, B8⟩, h6, hr⟩ := bd_some hr
  have hr9 := xq_some hr
  clear hr
  rcases hr9 with ⟨X9, rfl, hr⟩ | ⟨u10, rfl, hr⟩
  · cases hr
    rw [kr]
    exact x_cX (m_124 h6) rfl rfl rfl rfl (am_recv_v ((rg_pp (W := B3)).lt (i := 0) (show 0 < 1 by decide)) ((rg_pp (W := B3)).at (i := 0) rfl) rfl) (by omega) rfl
  refine x_cW (m_124 h6) rfl rfl rfl rfl (am_recv_v ((rg_pp (W := B3)).lt (i := 0) (show 0 < 1 by decide)) ((rg_pp (W := B3)).at (i := 0) rfl) rfl) (by omega) ?_
  refine x_ldan rfl rfl rfl ((rg_pp (W := B8)).lt (i := 0) (show 0 < 1 by decide)) ?_
  refine x_b 1 (S2 := (12, [some (.ref 0), some (.int x1), some (.int x2), some (.int x3), some (.int x4), none], [.int x3, .ref 0], (mk B8), B8.kc, B8.kn)) rfl ?_
  obtain ⟨⟨r12, B13⟩, h11, hr⟩ := bd_some hr
  have hr9 := xq_some hr
  clear hr
  rcases hr9 with ⟨X14, rfl, hr⟩ | ⟨u15, rfl, hr⟩
  · cases hr
    rw [kr]
    exact x_cX (m_124 h11) rfl rfl rfl rfl (am_recv_v ((rg_pp (W := B8)).lt (i := 0) (show 0 < 1 by decide)) ((rg_pp (W := B8)).at (i := 0) rfl) rfl) (by omega) rfl
  refine x_cW (m_124 h11) rfl rfl rfl rfl (am_recv_v ((rg_pp (W := B8)).lt (i := 0) (show 0 < 1 by decide)) ((rg_pp (W := B8)).at (i := 0) rfl) rfl) (by omega) ?_
  refine x_b 1 (S2 := (17, [some (.ref 0), some (.int x1), some (.int x2), some (.int x3), some (.int x4), none], [.int x4], (mk B13), B13.kc, B13.kn)) rfl ?_
  rcases ite_some hr with ⟨h16, hr⟩ | ⟨h16, hr⟩
  · refine x_zt rfl rfl (decide_eq_true h16) ?_
    refine x_fg (Lq.n (Lq.n (Lq.n (Lq.n (Lq.n (Lq.s Lq.nil)))))) ?_
    exact j_91_0_j40 hd hr kr
  · refine x_zf rfl rfl (decide_eq_false h16) ?_
    refine x_b 2 (S2 := (24, [some (.ref 0), some (.int x1), some (.int x2), some (.int x3), some (.int x4), none], [.int 64, .int x4], (mk B13), B13.kc, B13.kn)) rfl ?_
    rcases ite_some hr with ⟨h17, hr⟩ | ⟨h17, hr⟩
    · refine x_ct rfl rfl (decide_eq_true h17) ?_
      refine x_fg (Lq.n (Lq.n (Lq.n (Lq.n (Lq.n (Lq.s Lq.nil)))))) ?_
      exact j_91_0_j40 hd hr kr
    · refine x_cf rfl rfl (decide_eq_false h17) ?_
      refine x_b 1 (S2 := (28, [some (.ref 0), some (.int x1), some (.int x2), some (.int x3), some (.int x4), none], [.int x2], (mk B13), B13.kc, B13.kn)) rfl ?_
      refine x_ldan rfl rfl rfl ((rg_pp (W := B13)).lt (i := 0) (show 0 < 1 by decide)) ?_
      refine x_getf rfl rfl ((rg_pp (W := B13)).lt (i := 0) (show 0 < 1 by decide)) ((rg_pp (W := B13)).at (i := 0) rfl) rfl ?_
      refine x_getf rfl rfl ((rg_board (W := B13)).lt (i := 0) (show 0 < 6 by decide)) ((rg_board (W := B13)).at (i := 0) rfl) rfl ?_
      refine x_b 1 (S2 := (36, [some (.ref 0), some (.int x1), some (.int x2), some (.int x3), some (.int x4), none], [.int x1, .ref (1 + 3), .int x2], (mk B13), B13.kc, B13.kn)) rfl ?_
      obtain ⟨i18, h19, hr⟩ := bd_some hr
      refine x_iald rfl rfl ((rg_board (W := B13)).lt (i := 3) (show 3 < 6 by decide)) ((rg_board (W := B13)).at (i := 3) rfl) h19 ?_
      rcases ite_some hr with ⟨h20, hr⟩ | ⟨h20, hr⟩
      · refine x_ct rfl rfl (decide_eq_true h20) ?_
        refine x_ldan rfl rfl rfl ((rg_pp (W := B13)).lt (i := 0) (show 0 < 1 by decide)) ?_
        refine x_getf rfl rfl ((rg_pp (W := B13)).lt (i := 0) (show 0 < 1 by decide)) ((rg_pp (W := B13)).at (i := 0) rfl) rfl ?_
        refine x_ldan rfl rfl rfl ((rg_pp (W := B13)).lt (i := 0) (show 0 < 1 by decide)) ?_
        refine x_getf rfl rfl ((rg_pp (W := B13)).lt (i := 0) (show 0 < 1 by decide)) ((rg_pp (W := B13)).at (i := 0) rfl) rfl ?_
        obtain ⟨B22, h21, hr⟩ := bd_some hr
        refine x_cW (m_50 h21) rfl rfl rfl rfl (am_recv_v ((rg_hist (W := B13)).lt (i := 0) (show 0 < 2 by decide)) ((rg_hist (W := B13)).at (i := 0) rfl) rfl) (by omega) ?_
        refine x_ldan rfl rfl rfl ((rg_pp (W := B22)).lt (i := 0) (show 0 < 1 by decide)) ?_
        refine x_getf rfl rfl ((rg_pp (W := B22)).lt (i := 0) (show 0 < 1 by decide)) ((rg_pp (W := B22)).at (i := 0) rfl) rfl ?_
        refine x_b 2 (S2 := (67, [some (.ref 0), some (.int x1), some (.int x2), some (.int x3), some (.int x4), none], [.int x2, .int x1, .ref 1], (mk B22), B22.kc, B22.kn)) rfl ?_
        obtain ⟨v24, h23, hr⟩ := bd_some hr
        refine x_cW (RnW.of0 (m_28 (rg_board (W := B22)) h23) ⟨rfl, rfl⟩) rfl rfl rfl rfl (am_recv_v ((rg_board (W := B22)).lt (i := 0) (show 0 < 6 by decide)) ((rg_board (W := B22)).at (i := 0) rfl) rfl) (by omega) ?_
        refine x_b 1 (S2 := (72, [some (.ref 0), some (.int x1), some (.int x2), some (.int x3), some (.int x4), some (.int v24)], [], (mk B22), B22.kc, B22.kn)) rfl ?_
        refine x_ldan rfl rfl rfl ((rg_pp (W := B22)).lt (i := 0) (show 0 < 1 by decide)) ?_
        refine x_getf rfl rfl ((rg_pp (W := B22)).lt (i := 0) (show 0 < 1 by decide)) ((rg_pp (W := B22)).at (i := 0) rfl) rfl ?_
        refine x_b 4 (S2 := (81, [some (.ref 0), some (.int x1), some (.int x2), some (.int x3), some (.int x4), some (.int v24)], [.int x4, .int x3, .int x2, .int x1, .ref 1], (mk B22), B22.kc, B22.kn)) rfl ?_
        obtain ⟨o26, h25, hr⟩ := bd_some hr
        obtain ⟨B27, h28, hr⟩ := bd_some hr
        refine x_cW (wc_board (fun H hb hh hH => m_27 hb hh h25) h28) rfl rfl rfl rfl (am_recv_v ((rg_board (W := B22)).lt (i := 0) (show 0 < 6 by decide)) ((rg_board (W := B22)).at (i := 0) rfl) rfl) (by omega) ?_
        refine x_b 1 (S2 := (86, [some (.ref 0), some (.int x1), some (.int x2), some (.int x3), some (.int x4), some (.int v24)], [.int v24], (mk B27), B27.kc, B27.kn)) rfl ?_
        cases hr
        rw [kr]
        exact x_ret rfl rfl am_ret_i
      · refine x_cf rfl rfl (decide_eq_false h20) ?_
        refine x_fg (Lq.n (Lq.n (Lq.n (Lq.n (Lq.n (Lq.s Lq.nil)))))) ?_
        exact j_91_0_j40 hd hr kr
theorem m_91 {scr : ASc} {B : Wd} {x1 : Int32} {x2 : Int32} {x3 : Int32} {x4 : Int32} {o : (Int32 ⊕ Nat) × Wd} (hr : F_91 B x1 x2 x3 x4 = some o) : RnW scr 9 91 [.ref 0, .int x1, .int x2, .int x3, .int x4] B (xI o.1) o.2 :=
  x_methW (M := am_M91) rfl (show 5 ≤ 6 by decide) (f_91 (Nat.le_refl _) hr rfl)
/-- PebbleProofs.dropStrategy(I)I -/
def F_92 (B : Wd) (x1 : Int32) : Option ((Int32 ⊕ Nat) × Wd) :=
  (F_126 B x1).bind fun (r2, B3) =>
  xq r2 (fun X4 =>
    some (.inr X4, B3)) fun u5 =>
  (F_50 B3).bind fun B7 =>
  (F_26 B7.board x1).bind fun o9 =>
  (some (B7.w_board o9)).bind fun B10 =>
  some (.inl B10.board.strategyCount, B10)
theorem f_92 {d : Nat} (hd : 8 ≤ d) {scr : ASc} {res : ARe} {B : Wd} {x1 : Int32} {o : (Int32 ⊕ Nat) × Wd} (hr : F_92 B x1 = some o) (kr : res = (xI o.1, mk o.2, Wd.kc o.2, Wd.kn o.2)) : Ex d am_M92 scr (0, [some (.ref 0), some (.int x1)], [], (mk B), B.kc, B.kn) res := by
  delta F_92 at hr
  refine x_ldan rfl rfl rfl ((rg_pp (W := B)).lt (i := 0) (show 0 < 1 by decide)) ?_
  refine x_b 1 (S2 := (2, [some (.ref 0), some (.int x1)], [.int x1, .ref 0], (mk B), B.kc, B.kn)) rfl ?_
  obtain ⟨⟨r2, B3⟩, h1, hr⟩ := bd_some hr
  have hr9 := xq_some hr
  clear hr
  rcases hr9 with ⟨X4, rfl, hr⟩ | ⟨u5, rfl, hr⟩
  · cases hr
    rw [kr]
    exact x_cX (m_126 h1) rfl rfl rfl rfl (am_recv_v ((rg_pp (W := B)).lt (i := 0) (show 0 < 1 by decide)) ((rg_pp (W := B)).at (i := 0) rfl) rfl) (by omega) rfl
  refine x_cW (m_126 h1) rfl rfl rfl rfl (am_recv_v ((rg_pp (W := B)).lt (i := 0) (show 0 < 1 by decide)) ((rg_pp (W := B)).at (i := 0) rfl) rfl) (by omega) ?_
  refine x_ldan rfl rfl rfl ((rg_pp (W := B3)).lt (i := 0) (show 0 < 1 by decide)) ?_
  refine x_getf rfl rfl ((rg_pp (W := B3)).lt (i := 0) (show 0 < 1 by decide)) ((rg_pp (W := B3)).at (i := 0) rfl) rfl ?_
  refine x_ldan rfl rfl rfl ((rg_pp (W := B3)).lt (i := 0) (show 0 < 1 by decide)) ?_
  refine x_getf rfl rfl ((rg_pp (W := B3)).lt (i := 0) (show 0 < 1 by decide)) ((rg_pp (W := B3)).at (i := 0) rfl) rfl ?_
  obtain ⟨B7, h6, hr⟩ := bd_some hr
  refine x_cW (m_50 h6) rfl rfl rfl rfl (am_recv_v ((rg_hist (W := B3)).lt (i := 0) (show 0 < 2 by decide)) ((rg_hist (W := B3)).at (i := 0) rfl) rfl) (by omega) ?_
  refine x_ldan rfl rfl rfl ((rg_pp (W := B7)).lt (i := 0) (show 0 < 1 by decide)) ?_
  refine x_getf rfl rfl ((rg_pp (W := B7)).lt (i := 0) (show 0 < 1 by decide)) ((rg_pp (W := B7)).at (i := 0) rfl) rfl ?_
  refine x_b 1 (S2 := (21, [some (.ref 0), some (.int x1)], [.int x1, .ref 1], (mk B7), B7.kc, B7.kn)) rfl ?_
  obtain ⟨o9, h8, hr⟩ := bd_some hr
  obtain ⟨B10, h11, hr⟩ := bd_some hr
  refine x_cW (wc_board (fun H hb hh hH => m_26 hb hh h8) h11) rfl rfl rfl rfl (am_recv_v ((rg_board (W := B7)).lt (i := 0) (show 0 < 6 by decide)) ((rg_board (W := B7)).at (i := 0) rfl) rfl) (by omega) ?_
  refine x_ldan rfl rfl rfl ((rg_pp (W := B10)).lt (i := 0) (show 0 < 1 by decide)) ?_
  refine x_getf rfl rfl ((rg_pp (W := B10)).lt (i := 0) (show 0 < 1 by decide)) ((rg_pp (W := B10)).at (i := 0) rfl) rfl ?_
  refine x_getf rfl rfl ((rg_board (W := B10)).lt (i := 0) (show 0 < 6 by decide)) ((rg_board (W := B10)).at (i := 0) rfl) rfl ?_
  cases hr
  rw [kr]
  exact x_ret rfl rfl am_ret_i
theorem m_92 {scr : ASc} {B : Wd} {x1 : Int32} {o : (Int32 ⊕ Nat) × Wd} (hr : F_92 B x1 = some o) : RnW scr 9 92 [.ref 0, .int x1] B (xI o.1) o.2 :=
  x_methW (M := am_M92) rfl (show 2 ≤ 2 by decide) (f_92 (Nat.le_refl _) hr rfl)
/-- PebbleProofs.undo()I -/
def F_93 (B : Wd) : Option ((Int32 ⊕ Nat) × Wd) :=
  if ¬ B.hist.size = 0 then
    (F_51 B).bind fun B3 =>
    some (.inl B3.hist.size, B3)
  else
    some (.inr 0, B.thr)
theorem f_93 {d : Nat} (hd : 7 ≤ d) {scr : ASc} {res : ARe} {B : Wd} {o : (Int32 ⊕ Nat) × Wd} (hr : F_93 B = some o) (kr : res = (xI o.1, mk o.2, Wd.kc o.2, Wd.kn o.2)) : Ex d am_M93 scr (0, [some (.ref 0)], [], (mk B), B.kc, B.kn) res := by
  delta F_93 at hr
  refine x_ldan rfl rfl rfl ((rg_pp (W := B)).lt (i := 0) (show 0 < 1 by decide)) ?_
  refine x_getf rfl rfl ((rg_pp (W := B)).lt (i := 0) (show 0 < 1 by decide)) ((rg_pp (W := B)).at (i := 0) rfl) rfl ?_
  refine x_getf rfl rfl ((rg_hist (W := B)).lt (i := 0) (show 0 < 2 by decide)) ((rg_hist (W := B)).at (i := 0) rfl) rfl ?_
  rcases ite_some hr with ⟨h1, hr⟩ | ⟨h1, hr⟩
  · refine x_zt rfl rfl (decide_eq_true h1) ?_
    refine x_ldan rfl rfl rfl ((rg_pp (W := B)).lt (i := 0) (show 0 < 1 by decide)) ?_
    refine x_getf rfl rfl ((rg_pp (W := B)).lt (i := 0) (show 0 < 1 by decide)) ((rg_pp (W := B)).at (i := 0) rfl) rfl ?_
    refine x_ldan rfl rfl rfl ((rg_pp (W := B)).lt (i := 0) (show 0 < 1 by decide)) ?_
    refine x_getf rfl rfl ((rg_pp (W := B)).lt (i := 0) (show 0 < 1 by decide)) ((rg_pp (W := B)).at (i := 0) rfl) rfl ?_
    obtain ⟨B3, h2, hr⟩ := bd_some hr
    refine x_cW (m_51 h2) rfl rfl rfl rfl (am_recv_v ((rg_hist (W := B)).lt (i := 0) (show 0 < 2 by decide)) ((rg_hist (W := B)).at (i := 0) rfl) rfl) (by omega) ?_
    refine x_ldan rfl rfl rfl ((rg_pp (W := B3)).lt (i := 0) (show 0 < 1 by decide)) ?_
    refine x_getf rfl rfl ((rg_pp (W := B3)).lt (i := 0) (show 0 < 1 by decide)) ((rg_pp (W := B3)).at (i := 0) rfl) rfl ?_
    refine x_getf rfl rfl ((rg_hist (W := B3)).lt (i := 0) (show 0 < 2 by decide)) ((rg_hist (W := B3)).at (i := 0) rfl) rfl ?_
    cases hr
    rw [kr]
    exact x_ret rfl rfl am_ret_i
  · refine x_zf rfl rfl (decide_eq_false h1) ?_
    cases hr
    rw [kr]
    exact x_thr rfl (by decide) (by omega) (by decide) rfl
theorem m_93 {scr : ASc} {B : Wd} {o : (Int32 ⊕ Nat) × Wd} (hr : F_93 B = some o) : RnW scr 8 93 [.ref 0] B (xI o.1) o.2 :=
  x_methW (M := am_M93) rfl (show 1 ≤ 1 by decide) (f_93 (Nat.le_refl _) hr rfl)
/-- PebbleProofs.undoCount()I -/
def F_94 (B : Wd) : Option (Int32) :=
  some B.hist.size
theorem f_94 {d : Nat} (hd : 1 ≤ d) {scr : ASc} {res : ARe} {B : Wd} {o : Int32} (hr : F_94 B = some o) (kr : res = (.inl (some (.int o)), mk B, Wd.kc B, Wd.kn B)) : Ex d am_M94 scr (0, [some (.ref 0)], [], (mk B), B.kc, B.kn) res := by
  delta F_94 at hr
  refine x_ldan rfl rfl rfl ((rg_pp (W := B)).lt (i := 0) (show 0 < 1 by decide)) ?_
  refine x_getf rfl rfl ((rg_pp (W := B)).lt (i := 0) (show 0 < 1 by decide)) ((rg_pp (W := B)).at (i := 0) rfl) rfl ?_
  refine x_getf rfl rfl ((rg_hist (W := B)).lt (i := 0) (show 0 < 2 by decide)) ((rg_hist (W := B)).at (i := 0) rfl) rfl ?_
  cases hr
  rw [kr]
  exact x_ret rfl rfl am_ret_i
theorem m_94 {scr : ASc} {B : Wd} {o : Int32} (hr : F_94 B = some o) : RnW scr 2 94 [.ref 0] B (.inl (some (.int o))) B :=
  x_methW (M := am_M94) rfl (show 1 ≤ 1 by decide) (f_94 (Nat.le_refl _) hr rfl)
/-- PebbleProofs.save()I -/
def F_95 (B : Wd) : Option (Int32 × Wd) :=
  (F_2 B.saved B.board).bind fun o2 =>
  (some (B.w_saved o2)).bind fun B3 =>
  (some (B3.pp.w_hasSaved 1)).bind fun o5 =>
  (some (B3.w_pp o5)).bind fun B7 =>
  some (B7.board.vertices, B7)
theorem f_95 {d : Nat} (hd : 2 ≤ d) {scr : ASc} {res : ARe} {B : Wd} {o : Int32 × Wd} (hr : F_95 B = some o) (kr : res = (.inl (some (.int o.1)), mk o.2, Wd.kc o.2, Wd.kn o.2)) : Ex d am_M95 scr (0, [some (.ref 0)], [], (mk B), B.kc, B.kn) res := by
  delta F_95 at hr
  refine x_ldan rfl rfl rfl ((rg_pp (W := B)).lt (i := 0) (show 0 < 1 by decide)) ?_
  refine x_getf rfl rfl ((rg_pp (W := B)).lt (i := 0) (show 0 < 1 by decide)) ((rg_pp (W := B)).at (i := 0) rfl) rfl ?_
  refine x_ldan rfl rfl rfl ((rg_pp (W := B)).lt (i := 0) (show 0 < 1 by decide)) ?_
  refine x_getf rfl rfl ((rg_pp (W := B)).lt (i := 0) (show 0 < 1 by decide)) ((rg_pp (W := B)).at (i := 0) rfl) rfl ?_
  obtain ⟨o2, h1, hr⟩ := bd_some hr
  obtain ⟨B3, h4, hr⟩ := bd_some hr
  refine x_cW (wc_saved (fun H hb hh hH => m_2 hb hh (show 1 + 6 ≤ 7 ∨ 7 + 6 ≤ 1 by decide) (fun L hl => by subst hH; exact Rg.far (rg_saved (W := B)) hl (rg_board (W := B)) (show 1 + 6 ≤ 7 ∨ 7 + 6 ≤ 1 by decide)) h1) h4) rfl rfl rfl rfl (am_recv_v ((rg_saved (W := B)).lt (i := 0) (show 0 < 6 by decide)) ((rg_saved (W := B)).at (i := 0) rfl) rfl) (by omega) ?_
  refine x_ldan rfl rfl rfl ((rg_pp (W := B3)).lt (i := 0) (show 0 < 1 by decide)) ?_
  refine x_b 1 (S2 := (13, [some (.ref 0)], [.int 1, .ref 0], (mk B3), B3.kc, B3.kn)) rfl ?_
  obtain ⟨o5, h6, hr⟩ := bd_some hr
  obtain ⟨B7, h8, hr⟩ := bd_some hr
  refine x_putf (H := (mk B7)) rfl rfl ((rg_pp (W := B3)).lt (i := 0) (show 0 < 1 by decide)) ((rg_pp (W := B3)).at (i := 0) rfl) ⟨(show 2 < 9 by decide), rfl, rfl, nofun⟩ (ws_pp (i := 0) (PPt.s_hasSaved rfl h6) h8 (by decide)) ?_
  refine x_kk (kk_pp h8) ?_
  refine x_ldan rfl rfl rfl ((rg_pp (W := B7)).lt (i := 0) (show 0 < 1 by decide)) ?_
  refine x_getf rfl rfl ((rg_pp (W := B7)).lt (i := 0) (show 0 < 1 by decide)) ((rg_pp (W := B7)).at (i := 0) rfl) rfl ?_
  refine x_getf rfl rfl ((rg_board (W := B7)).lt (i := 0) (show 0 < 6 by decide)) ((rg_board (W := B7)).at (i := 0) rfl) rfl ?_
  cases hr
  rw [kr]
  exact x_ret rfl rfl am_ret_i
theorem m_95 {scr : ASc} {B : Wd} {o : Int32 × Wd} (hr : F_95 B = some o) : RnW scr 3 95 [.ref 0] B (.inl (some (.int o.1))) o.2 :=
  x_methW (M := am_M95) rfl (show 1 ≤ 1 by decide) (f_95 (Nat.le_refl _) hr rfl)
/-- PebbleProofs.restore()I -/
def F_96 (B : Wd) : Option ((Int32 ⊕ Nat) × Wd) :=
  if ¬ B.pp.hasSaved = 0 then
    (F_2 B.board B.saved).bind fun o3 =>
    (some (B.w_board o3)).bind fun B4 =>
    (F_49 B4).bind fun B7 =>
    some (.inl B7.board.vertices, B7)
  else
    some (.inr 0, B.thr)
theorem f_96 {d : Nat} (hd : 7 ≤ d) {scr : ASc} {res : ARe} {B : Wd} {o : (Int32 ⊕ Nat) × Wd} (hr : F_96 B = some o) (kr : res = (xI o.1, mk o.2, Wd.kc o.2, Wd.kn o.2)) : Ex d am_M96 scr (0, [some (.ref 0)], [], (mk B), B.kc, B.kn) res := by
  delta F_96 at hr
  refine x_ldan rfl rfl rfl ((rg_pp (W := B)).lt (i := 0) (show 0 < 1 by decide)) ?_
  refine x_getf rfl rfl ((rg_pp (W := B)).lt (i := 0) (show 0 < 1 by decide)) ((rg_pp (W := B)).at (i := 0) rfl) rfl ?_
  rcases ite_some hr with ⟨h1, hr⟩ | ⟨h1, hr⟩
  · refine x_zt rfl rfl (decide_eq_true h1) ?_
    refine x_ldan rfl rfl rfl ((rg_pp (W := B)).lt (i := 0) (show 0 < 1 by decide)) ?_
    refine x_getf rfl rfl ((rg_pp (W := B)).lt (i := 0) (show 0 < 1 by decide)) ((rg_pp (W := B)).at (i := 0) rfl) rfl ?_
    refine x_ldan rfl rfl rfl ((rg_pp (W := B)).lt (i := 0) (show 0 < 1 by decide)) ?_
    refine x_getf rfl rfl ((rg_pp (W := B)).lt (i := 0) (show 0 < 1 by decide)) ((rg_pp (W := B)).at (i := 0) rfl) rfl ?_
    obtain ⟨o3, h2, hr⟩ := bd_some hr
    obtain ⟨B4, h5, hr⟩ := bd_some hr
    refine x_cW (wc_board (fun H hb hh hH => m_2 hb hh (show 7 + 6 ≤ 1 ∨ 1 + 6 ≤ 7 by decide) (fun L hl => by subst hH; exact Rg.far (rg_board (W := B)) hl (rg_saved (W := B)) (show 7 + 6 ≤ 1 ∨ 1 + 6 ≤ 7 by decide)) h2) h5) rfl rfl rfl rfl (am_recv_v ((rg_board (W := B)).lt (i := 0) (show 0 < 6 by decide)) ((rg_board (W := B)).at (i := 0) rfl) rfl) (by omega) ?_
    refine x_ldan rfl rfl rfl ((rg_pp (W := B4)).lt (i := 0) (show 0 < 1 by decide)) ?_
    refine x_getf rfl rfl ((rg_pp (W := B4)).lt (i := 0) (show 0 < 1 by decide)) ((rg_pp (W := B4)).at (i := 0) rfl) rfl ?_
    obtain ⟨B7, h6, hr⟩ := bd_some hr
    refine x_cW (m_49 h6) rfl rfl rfl rfl (am_recv_v ((rg_hist (W := B4)).lt (i := 0) (show 0 < 2 by decide)) ((rg_hist (W := B4)).at (i := 0) rfl) rfl) (by omega) ?_
    refine x_ldan rfl rfl rfl ((rg_pp (W := B7)).lt (i := 0) (show 0 < 1 by decide)) ?_
    refine x_getf rfl rfl ((rg_pp (W := B7)).lt (i := 0) (show 0 < 1 by decide)) ((rg_pp (W := B7)).at (i := 0) rfl) rfl ?_
    refine x_getf rfl rfl ((rg_board (W := B7)).lt (i := 0) (show 0 < 6 by decide)) ((rg_board (W := B7)).at (i := 0) rfl) rfl ?_
    cases hr
    rw [kr]
    exact x_ret rfl rfl am_ret_i
  · refine x_zf rfl rfl (decide_eq_false h1) ?_
    cases hr
    rw [kr]
    exact x_thr rfl (by decide) (by omega) (by decide) rfl
theorem m_96 {scr : ASc} {B : Wd} {o : (Int32 ⊕ Nat) × Wd} (hr : F_96 B = some o) : RnW scr 8 96 [.ref 0] B (xI o.1) o.2 :=
  x_methW (M := am_M96) rfl (show 1 ≤ 1 by decide) (f_96 (Nat.le_refl _) hr rfl)
/-- PebbleProofs.reason()I -/
def F_97 (B : Wd) : Option (Int32) :=
  some B.pp.refusal
theorem f_97 {d : Nat} (hd : 1 ≤ d) {scr : ASc} {res : ARe} {B : Wd} {o : Int32} (hr : F_97 B = some o) (kr : res = (.inl (some (.int o)), mk B, Wd.kc B, Wd.kn B)) : Ex d am_M97 scr (0, [some (.ref 0)], [], (mk B), B.kc, B.kn) res := by
  delta F_97 at hr
  refine x_ldan rfl rfl rfl ((rg_pp (W := B)).lt (i := 0) (show 0 < 1 by decide)) ?_
  refine x_getf rfl rfl ((rg_pp (W := B)).lt (i := 0) (show 0 < 1 by decide)) ((rg_pp (W := B)).at (i := 0) rfl) rfl ?_
  cases hr
  rw [kr]
  exact x_ret rfl rfl am_ret_i
theorem m_97 {scr : ASc} {B : Wd} {o : Int32} (hr : F_97 B = some o) : RnW scr 2 97 [.ref 0] B (.inl (some (.int o))) B :=
  x_methW (M := am_M97) rfl (show 1 ≤ 1 by decide) (f_97 (Nat.le_refl _) hr rfl)
/-- PebbleProofs.count(I)I -/
def F_98 (B : Wd) (x1 : Int32) : Option ((Int32 ⊕ Nat) × Wd) :=
  if x1 = 0 then
    some (.inl B.board.vertices, B)
  else if x1 = 1 then
    (F_7 B.board).bind fun v4 =>
    some (.inl v4, B)
  else if x1 = 2 then
    (F_22 B.board).bind fun v7 =>
    some (.inl v7, B)
  else if x1 = 3 then
    some (.inl B.board.moveCount, B)
  else if x1 = 4 then
    some (.inl B.board.strategyCount, B)
  else if x1 = 5 then
    (F_18 B.board).bind fun v12 =>
    some (.inl v12, B)
  else 
    some (.inr 1, B.thr)
theorem f_98 {d : Nat} (hd : 7 ≤ d) {scr : ASc} {res : ARe} {B : Wd} {x1 : Int32} {o : (Int32 ⊕ Nat) × Wd} (hr : F_98 B x1 = some o) (kr : res = (xI o.1, mk o.2, Wd.kc o.2, Wd.kn o.2)) : Ex d am_M98 scr (0, [some (.ref 0), some (.int x1)], [], (mk B), B.kc, B.kn) res := by
  delta F_98 at hr
  refine x_b 1 (S2 := (1, [some (.ref 0), some (.int x1)], [.int x1], (mk B), B.kc, B.kn)) rfl ?_
  rcases ite_some hr with ⟨h1, hr⟩ | ⟨h1, hr⟩
  · refine x_tswk rfl rfl h1 rfl ?_
    refine x_ldan rfl rfl rfl ((rg_pp (W := B)).lt (i := 0) (show 0 < 1 by decide)) ?_
    refine x_getf rfl rfl ((rg_pp (W := B)).lt (i := 0) (show 0 < 1 by decide)) ((rg_pp (W := B)).at (i := 0) rfl) rfl ?_
    refine x_getf rfl rfl ((rg_board (W := B)).lt (i := 0) (show 0 < 6 by decide)) ((rg_board (W := B)).at (i := 0) rfl) rfl ?_
    cases hr
    rw [kr]
    exact x_ret rfl rfl am_ret_i
  rcases ite_some hr with ⟨h2, hr⟩ | ⟨h2, hr⟩
  · refine x_tswk rfl rfl h2 rfl ?_
    refine x_ldan rfl rfl rfl ((rg_pp (W := B)).lt (i := 0) (show 0 < 1 by decide)) ?_
    refine x_getf rfl rfl ((rg_pp (W := B)).lt (i := 0) (show 0 < 1 by decide)) ((rg_pp (W := B)).at (i := 0) rfl) rfl ?_
    obtain ⟨v4, h3, hr⟩ := bd_some hr
    refine x_cW (RnW.of0 (m_7 (rg_board (W := B)) h3) ⟨rfl, rfl⟩) rfl rfl rfl rfl (am_recv_v ((rg_board (W := B)).lt (i := 0) (show 0 < 6 by decide)) ((rg_board (W := B)).at (i := 0) rfl) rfl) (by omega) ?_
    cases hr
    rw [kr]
    exact x_ret rfl rfl am_ret_i
  rcases ite_some hr with ⟨h5, hr⟩ | ⟨h5, hr⟩
  · refine x_tswk rfl rfl h5 rfl ?_
    refine x_ldan rfl rfl rfl ((rg_pp (W := B)).lt (i := 0) (show 0 < 1 by decide)) ?_
    refine x_getf rfl rfl ((rg_pp (W := B)).lt (i := 0) (show 0 < 1 by decide)) ((rg_pp (W := B)).at (i := 0) rfl) rfl ?_
    obtain ⟨v7, h6, hr⟩ := bd_some hr
    refine x_cW (RnW.of0 (m_22 (rg_board (W := B)) h6) ⟨rfl, rfl⟩) rfl rfl rfl rfl (am_recv_v ((rg_board (W := B)).lt (i := 0) (show 0 < 6 by decide)) ((rg_board (W := B)).at (i := 0) rfl) rfl) (by omega) ?_
    cases hr
    rw [kr]
    exact x_ret rfl rfl am_ret_i
  rcases ite_some hr with ⟨h8, hr⟩ | ⟨h8, hr⟩
  · refine x_tswk rfl rfl h8 rfl ?_
    refine x_ldan rfl rfl rfl ((rg_pp (W := B)).lt (i := 0) (show 0 < 1 by decide)) ?_
    refine x_getf rfl rfl ((rg_pp (W := B)).lt (i := 0) (show 0 < 1 by decide)) ((rg_pp (W := B)).at (i := 0) rfl) rfl ?_
    refine x_getf rfl rfl ((rg_board (W := B)).lt (i := 0) (show 0 < 6 by decide)) ((rg_board (W := B)).at (i := 0) rfl) rfl ?_
    cases hr
    rw [kr]
    exact x_ret rfl rfl am_ret_i
  rcases ite_some hr with ⟨h9, hr⟩ | ⟨h9, hr⟩
  · refine x_tswk rfl rfl h9 rfl ?_
    refine x_ldan rfl rfl rfl ((rg_pp (W := B)).lt (i := 0) (show 0 < 1 by decide)) ?_
    refine x_getf rfl rfl ((rg_pp (W := B)).lt (i := 0) (show 0 < 1 by decide)) ((rg_pp (W := B)).at (i := 0) rfl) rfl ?_
    refine x_getf rfl rfl ((rg_board (W := B)).lt (i := 0) (show 0 < 6 by decide)) ((rg_board (W := B)).at (i := 0) rfl) rfl ?_
    cases hr
    rw [kr]
    exact x_ret rfl rfl am_ret_i
  rcases ite_some hr with ⟨h10, hr⟩ | ⟨h10, hr⟩
  · refine x_tswk rfl rfl h10 rfl ?_
    refine x_ldan rfl rfl rfl ((rg_pp (W := B)).lt (i := 0) (show 0 < 1 by decide)) ?_
    refine x_getf rfl rfl ((rg_pp (W := B)).lt (i := 0) (show 0 < 1 by decide)) ((rg_pp (W := B)).at (i := 0) rfl) rfl ?_
    obtain ⟨v12, h11, hr⟩ := bd_some hr
    refine x_cW (RnW.of0 (m_18 (rg_board (W := B)) h11) ⟨rfl, rfl⟩) rfl rfl rfl rfl (am_recv_v ((rg_board (W := B)).lt (i := 0) (show 0 < 6 by decide)) ((rg_board (W := B)).at (i := 0) rfl) rfl) (by omega) ?_
    cases hr
    rw [kr]
    exact x_ret rfl rfl am_ret_i
  refine x_tswd rfl rfl (tsw_out 5 (by decide) (fun k hk => match k, hk with | 0, _ => h1 | 1, _ => h2 | 2, _ => h5 | 3, _ => h8 | 4, _ => h9 | 5, _ => h10 | k + 6, hk => absurd hk (by omega))) ⟨by decide, rfl⟩ ?_
  cases hr
  rw [kr]
  exact x_thr rfl (by decide) (by omega) (by decide) rfl
theorem m_98 {scr : ASc} {B : Wd} {x1 : Int32} {o : (Int32 ⊕ Nat) × Wd} (hr : F_98 B x1 = some o) : RnW scr 8 98 [.ref 0, .int x1] B (xI o.1) o.2 :=
  x_methW (M := am_M98) rfl (show 2 ≤ 2 by decide) (f_98 (Nat.le_refl _) hr rfl)
/-- PebbleProofs.isEdge(II)Z -/
def F_99 (B : Wd) (x1 : Int32) (x2 : Int32) : Option ((Int32 ⊕ Nat) × Wd) :=
  (F_124 B x1).bind fun (r2, B3) =>
  xq r2 (fun X4 =>
    some (.inr X4, B3)) fun u5 =>
  (F_124 B3 x2).bind fun (r7, B8) =>
  xq r7 (fun X9 =>
    some (.inr X9, B8)) fun u10 =>
  (F_6 B8.board x1 x2).bind fun v12 =>
  if v12 = 0 ∨ v12 = 1 then some (.inl v12, B8) else none
theorem f_99 {d : Nat} (hd : 8 ≤ d) {scr : ASc} {res : ARe} {B : Wd} {x1 : Int32} {x2 : Int32} {o : (Int32 ⊕ Nat) × Wd} (hr : F_99 B x1 x2 = some o) (kr : res = (xI o.1, mk o.2, Wd.kc o.2, Wd.kn o.2)) : Ex d am_M99 scr (0, [some (.ref 0), some (.int x1), some (.int x2)], [], (mk B), B.kc, B.kn) res := by
  delta F_99 at hr
  refine x_ldan rfl rfl rfl ((rg_pp (W := B)).lt (i := 0) (show 0 < 1 by decide)) ?_
  refine x_b 1 (S2 := (2, [some (.ref 0), some (.int x1), some (.int x2)], [.int x1, .ref 0], (mk B), B.kc, B.kn)) rfl ?_
  obtain ⟨⟨r2, B3⟩, h1, hr⟩ := bd_some hr
  have hr9 := xq_some hr
  clear hr
  rcases hr9 with ⟨X4, rfl, hr⟩ | ⟨u5, rfl, hr⟩
  · cases hr
    rw [kr]
    exact x_cX (m_124 h1) rfl rfl rfl rfl (am_recv_v ((rg_pp (W := B)).lt (i := 0) (show 0 < 1 by decide)) ((rg_pp (W := B)).at (i := 0) rfl) rfl) (by omega) rfl
  refine x_cW (m_124 h1) rfl rfl rfl rfl (am_recv_v ((rg_pp (W := B)).lt (i := 0) (show 0 < 1 by decide)) ((rg_pp (W := B)).at (i := 0) rfl) rfl) (by omega) ?_
  refine x_ldan rfl rfl rfl ((rg_pp (W := B3)).lt (i := 0) (show 0 < 1 by decide)) ?_
  refine x_b 1 (S2 := (7, [some (.ref 0), some (.int x1), some (.int x2)], [.int x2, .ref 0], (mk B3), B3.kc, B3.kn)) rfl ?_
  obtain ⟨⟨r7, B8⟩, h6, hr⟩ := bd_some hr
  have hr9 := xq_some hr
  clear hr
  rcases hr9 with ⟨X9, rfl, hr⟩ | ⟨u10, rfl, hr⟩
  · cases hr
    rw [kr]
    exact x_cX (m_124 h6) rfl rfl rfl rfl (am_recv_v ((rg_pp (W := B3)).lt (i := 0) (show 0 < 1 by decide)) ((rg_pp (W := B3)).at (i := 0) rfl) rfl) (by omega) rfl
  refine x_cW (m_124 h6) rfl rfl rfl rfl (am_recv_v ((rg_pp (W := B3)).lt (i := 0) (show 0 < 1 by decide)) ((rg_pp (W := B3)).at (i := 0) rfl) rfl) (by omega) ?_
  refine x_ldan rfl rfl rfl ((rg_pp (W := B8)).lt (i := 0) (show 0 < 1 by decide)) ?_
  refine x_getf rfl rfl ((rg_pp (W := B8)).lt (i := 0) (show 0 < 1 by decide)) ((rg_pp (W := B8)).at (i := 0) rfl) rfl ?_
  refine x_b 2 (S2 := (16, [some (.ref 0), some (.int x1), some (.int x2)], [.int x2, .int x1, .ref 1], (mk B8), B8.kc, B8.kn)) rfl ?_
  obtain ⟨v12, h11, hr⟩ := bd_some hr
  refine x_cW (RnW.of0 (m_6 (rg_board (W := B8)) h11) ⟨rfl, rfl⟩) rfl rfl rfl rfl (am_recv_v ((rg_board (W := B8)).lt (i := 0) (show 0 < 6 by decide)) ((rg_board (W := B8)).at (i := 0) rfl) rfl) (by omega) ?_
  obtain ⟨h13, hr⟩ := itn_some hr
  cases hr
  rw [kr]
  exact x_ret rfl rfl (am_ret_z h13)
theorem m_99 {scr : ASc} {B : Wd} {x1 : Int32} {x2 : Int32} {o : (Int32 ⊕ Nat) × Wd} (hr : F_99 B x1 x2 = some o) : RnW scr 9 99 [.ref 0, .int x1, .int x2] B (xI o.1) o.2 :=
  x_methW (M := am_M99) rfl (show 3 ≤ 3 by decide) (f_99 (Nat.le_refl _) hr rfl)
/-- PebbleProofs.distance(II)I -/
def F_100 (B : Wd) (x1 : Int32) (x2 : Int32) : Option ((Int32 ⊕ Nat) × Wd) :=
  (F_124 B x1).bind fun (r2, B3) =>
  xq r2 (fun X4 =>
    some (.inr X4, B3)) fun u5 =>
  (F_124 B3 x2).bind fun (r7, B8) =>
  xq r7 (fun X9 =>
    some (.inr X9, B8)) fun u10 =>
  (F_15 B8.board x1 x2).bind fun v12 =>
  some (.inl v12, B8)
theorem f_100 {d : Nat} (hd : 8 ≤ d) {scr : ASc} {res : ARe} {B : Wd} {x1 : Int32} {x2 : Int32} {o : (Int32 ⊕ Nat) × Wd} (hr : F_100 B x1 x2 = some o) (kr : res = (xI o.1, mk o.2, Wd.kc o.2, Wd.kn o.2)) : Ex d am_M100 scr (0, [some (.ref 0), some (.int x1), some (.int x2)], [], (mk B), B.kc, B.kn) res := by
  delta F_100 at hr
  refine x_ldan rfl rfl rfl ((rg_pp (W := B)).lt (i := 0) (show 0 < 1 by decide)) ?_
  refine x_b 1 (S2 := (2, [some (.ref 0), some (.int x1), some (.int x2)], [.int x1, .ref 0], (mk B), B.kc, B.kn)) rfl ?_
  obtain ⟨⟨r2, B3⟩, h1, hr⟩ := bd_some hr
  have hr9 := xq_some hr
  clear hr
  rcases hr9 with ⟨X4, rfl, hr⟩ | ⟨u5, rfl, hr⟩
  · cases hr
    rw [kr]
    exact x_cX (m_124 h1) rfl rfl rfl rfl (am_recv_v ((rg_pp (W := B)).lt (i := 0) (show 0 < 1 by decide)) ((rg_pp (W := B)).at (i := 0) rfl) rfl) (by omega) rfl
  refine x_cW (m_124 h1) rfl rfl rfl rfl (am_recv_v ((rg_pp (W := B)).lt (i := 0) (show 0 < 1 by decide)) ((rg_pp (W := B)).at (i := 0) rfl) rfl) (by omega) ?_
  refine x_ldan rfl rfl rfl ((rg_pp (W := B3)).lt (i := 0) (show 0 < 1 by decide)) ?_
  refine x_b 1 (S2 := (7, [some (.ref 0), some (.int x1), some (.int x2)], [.int x2, .ref 0], (mk B3), B3.kc, B3.kn)) rfl ?_
  obtain ⟨⟨r7, B8⟩, h6, hr⟩ := bd_some hr
  have hr9 := xq_some hr
  clear hr
  rcases hr9 with ⟨X9, rfl, hr⟩ | ⟨u10, rfl, hr⟩
  · cases hr
    rw [kr]
    exact x_cX (m_124 h6) rfl rfl rfl rfl (am_recv_v ((rg_pp (W := B3)).lt (i := 0) (show 0 < 1 by decide)) ((rg_pp (W := B3)).at (i := 0) rfl) rfl) (by omega) rfl
  refine x_cW (m_124 h6) rfl rfl rfl rfl (am_recv_v ((rg_pp (W := B3)).lt (i := 0) (show 0 < 1 by decide)) ((rg_pp (W := B3)).at (i := 0) rfl) rfl) (by omega) ?_
  refine x_ldan rfl rfl rfl ((rg_pp (W := B8)).lt (i := 0) (show 0 < 1 by decide)) ?_
  refine x_getf rfl rfl ((rg_pp (W := B8)).lt (i := 0) (show 0 < 1 by decide)) ((rg_pp (W := B8)).at (i := 0) rfl) rfl ?_
  refine x_b 2 (S2 := (16, [some (.ref 0), some (.int x1), some (.int x2)], [.int x2, .int x1, .ref 1], (mk B8), B8.kc, B8.kn)) rfl ?_
  obtain ⟨v12, h11, hr⟩ := bd_some hr
  refine x_cW (RnW.of0 (m_15 (rg_board (W := B8)) h11) ⟨rfl, rfl⟩) rfl rfl rfl rfl (am_recv_v ((rg_board (W := B8)).lt (i := 0) (show 0 < 6 by decide)) ((rg_board (W := B8)).at (i := 0) rfl) rfl) (by omega) ?_
  cases hr
  rw [kr]
  exact x_ret rfl rfl am_ret_i
theorem m_100 {scr : ASc} {B : Wd} {x1 : Int32} {x2 : Int32} {o : (Int32 ⊕ Nat) × Wd} (hr : F_100 B x1 x2 = some o) : RnW scr 9 100 [.ref 0, .int x1, .int x2] B (xI o.1) o.2 :=
  x_methW (M := am_M100) rfl (show 3 ≤ 3 by decide) (f_100 (Nat.le_refl _) hr rfl)
/-- PebbleProofs.pebbles(I)I -/
def F_102 (B : Wd) (x1 : Int32) : Option ((Int32 ⊕ Nat) × Wd) :=
  (F_124 B x1).bind fun (r2, B3) =>
  xq r2 (fun X4 =>
    some (.inr X4, B3)) fun u5 =>
  (ix x1 6).bind fun i6 =>
  some (.inl (B3.board.pile i6), B3)
theorem f_102 {d : Nat} (hd : 8 ≤ d) {scr : ASc} {res : ARe} {B : Wd} {x1 : Int32} {o : (Int32 ⊕ Nat) × Wd} (hr : F_102 B x1 = some o) (kr : res = (xI o.1, mk o.2, Wd.kc o.2, Wd.kn o.2)) : Ex d am_M102 scr (0, [some (.ref 0), some (.int x1)], [], (mk B), B.kc, B.kn) res := by
  delta F_102 at hr
  refine x_ldan rfl rfl rfl ((rg_pp (W := B)).lt (i := 0) (show 0 < 1 by decide)) ?_
  refine x_b 1 (S2 := (2, [some (.ref 0), some (.int x1)], [.int x1, .ref 0], (mk B), B.kc, B.kn)) rfl ?_
  obtain ⟨⟨r2, B3⟩, h1, hr⟩ := bd_some hr
  have hr9 := xq_some hr
  clear hr
  rcases hr9 with ⟨X4, rfl, hr⟩ | ⟨u5, rfl, hr⟩
  · cases hr
    rw [kr]
    exact x_cX (m_124 h1) rfl rfl rfl rfl (am_recv_v ((rg_pp (W := B)).lt (i := 0) (show 0 < 1 by decide)) ((rg_pp (W := B)).at (i := 0) rfl) rfl) (by omega) rfl
  refine x_cW (m_124 h1) rfl rfl rfl rfl (am_recv_v ((rg_pp (W := B)).lt (i := 0) (show 0 < 1 by decide)) ((rg_pp (W := B)).at (i := 0) rfl) rfl) (by omega) ?_
  refine x_ldan rfl rfl rfl ((rg_pp (W := B3)).lt (i := 0) (show 0 < 1 by decide)) ?_
  refine x_getf rfl rfl ((rg_pp (W := B3)).lt (i := 0) (show 0 < 1 by decide)) ((rg_pp (W := B3)).at (i := 0) rfl) rfl ?_
  refine x_getf rfl rfl ((rg_board (W := B3)).lt (i := 0) (show 0 < 6 by decide)) ((rg_board (W := B3)).at (i := 0) rfl) rfl ?_
  refine x_b 1 (S2 := (13, [some (.ref 0), some (.int x1)], [.int x1, .ref (1 + 1)], (mk B3), B3.kc, B3.kn)) rfl ?_
  obtain ⟨i6, h7, hr⟩ := bd_some hr
  refine x_iald rfl rfl ((rg_board (W := B3)).lt (i := 1) (show 1 < 6 by decide)) ((rg_board (W := B3)).at (i := 1) rfl) h7 ?_
  cases hr
  rw [kr]
  exact x_ret rfl rfl am_ret_i
theorem m_102 {scr : ASc} {B : Wd} {x1 : Int32} {o : (Int32 ⊕ Nat) × Wd} (hr : F_102 B x1 = some o) : RnW scr 9 102 [.ref 0, .int x1] B (xI o.1) o.2 :=
  x_methW (M := am_M102) rfl (show 2 ≤ 2 by decide) (f_102 (Nat.le_refl _) hr rfl)
/-- PebbleProofs.strategy(III)I -/
def F_115 (B : Wd) (x1 : Int32) (x2 : Int32) (x3 : Int32) : Option ((Int32 ⊕ Nat) × Wd) :=
  (F_126 B x1).bind fun (r2, B3) =>
  xq r2 (fun X4 =>
    some (.inr X4, B3)) fun u5 =>
  (F_124 B3 x2).bind fun (r7, B8) =>
  xq r7 (fun X9 =>
    some (.inr X9, B8)) fun u10 =>
  if x3 = 0 then
    (ix x1 6).bind fun i12 =>
    some (.inl (B8.board.targets i12), B8)
  else if x3 = 1 then
    (F_28 B8.board x1 x2).bind fun v16 =>
    some (.inl v16, B8)
  else if x3 = 2 then
    (F_29 B8.board x1 x2).bind fun v19 =>
    some (.inl v19, B8)
  else 
    some (.inr 1, B8.thr)
theorem f_115 {d : Nat} (hd : 8 ≤ d) {scr : ASc} {res : ARe} {B : Wd} {x1 : Int32} {x2 : Int32} {x3 : Int32} {o : (Int32 ⊕ Nat) × Wd} (hr : F_115 B x1 x2 x3 = some o) (kr : res = (xI o.1, mk o.2, Wd.kc o.2, Wd.kn o.2)) : Ex d am_M115 scr (0, [some (.ref 0), some (.int x1), some (.int x2), some (.int x3)], [], (mk B), B.kc, B.kn) res := by
  delta F_115 at hr
  refine x_ldan rfl rfl rfl ((rg_pp (W := B)).lt (i := 0) (show 0 < 1 by decide)) ?_
  refine x_b 1 (S2 := (2, [some (.ref 0), some (.int x1), some (.int x2), some (.int x3)], [.int x1, .ref 0], (mk B), B.kc, B.kn)) rfl ?_
  obtain ⟨⟨r2, B3⟩, h1, hr⟩ := bd_some hr
  have hr9 := xq_some hr
  clear hr
  rcases hr9 with ⟨X4, rfl, hr⟩ | ⟨u5, rfl, hr⟩
  · cases hr
    rw [kr]
    exact x_cX (m_126 h1) rfl rfl rfl rfl (am_recv_v ((rg_pp (W := B)).lt (i := 0) (show 0 < 1 by decide)) ((rg_pp (W := B)).at (i := 0) rfl) rfl) (by omega) rfl
  refine x_cW (m_126 h1) rfl rfl rfl rfl (am_recv_v ((rg_pp (W := B)).lt (i := 0) (show 0 < 1 by decide)) ((rg_pp (W := B)).at (i := 0) rfl) rfl) (by omega) ?_
  refine x_ldan rfl rfl rfl ((rg_pp (W := B3)).lt (i := 0) (show 0 < 1 by decide)) ?_
  refine x_b 1 (S2 := (7, [some (.ref 0), some (.int x1), some (.int x2), some (.int x3)], [.int x2, .ref 0], (mk B3), B3.kc, B3.kn)) rfl ?_
  obtain ⟨⟨r7, B8⟩, h6, hr⟩ := bd_some hr
  have hr9 := xq_some hr
  clear hr
  rcases hr9 with ⟨X9, rfl, hr⟩ | ⟨u10, rfl, hr⟩
  · cases hr
    rw [kr]
    exact x_cX (m_124 h6) rfl rfl rfl rfl (am_recv_v ((rg_pp (W := B3)).lt (i := 0) (show 0 < 1 by decide)) ((rg_pp (W := B3)).at (i := 0) rfl) rfl) (by omega) rfl
  refine x_cW (m_124 h6) rfl rfl rfl rfl (am_recv_v ((rg_pp (W := B3)).lt (i := 0) (show 0 < 1 by decide)) ((rg_pp (W := B3)).at (i := 0) rfl) rfl) (by omega) ?_
  refine x_b 1 (S2 := (11, [some (.ref 0), some (.int x1), some (.int x2), some (.int x3)], [.int x3], (mk B8), B8.kc, B8.kn)) rfl ?_
  rcases ite_some hr with ⟨h11, hr⟩ | ⟨h11, hr⟩
  · refine x_tswk rfl rfl h11 rfl ?_
    refine x_ldan rfl rfl rfl ((rg_pp (W := B8)).lt (i := 0) (show 0 < 1 by decide)) ?_
    refine x_getf rfl rfl ((rg_pp (W := B8)).lt (i := 0) (show 0 < 1 by decide)) ((rg_pp (W := B8)).at (i := 0) rfl) rfl ?_
    refine x_getf rfl rfl ((rg_board (W := B8)).lt (i := 0) (show 0 < 6 by decide)) ((rg_board (W := B8)).at (i := 0) rfl) rfl ?_
    refine x_b 1 (S2 := (44, [some (.ref 0), some (.int x1), some (.int x2), some (.int x3)], [.int x1, .ref (1 + 3)], (mk B8), B8.kc, B8.kn)) rfl ?_
    obtain ⟨i12, h13, hr⟩ := bd_some hr
    refine x_iald rfl rfl ((rg_board (W := B8)).lt (i := 3) (show 3 < 6 by decide)) ((rg_board (W := B8)).at (i := 3) rfl) h13 ?_
    cases hr
    rw [kr]
    exact x_ret rfl rfl am_ret_i
  rcases ite_some hr with ⟨h14, hr⟩ | ⟨h14, hr⟩
  · refine x_tswk rfl rfl h14 rfl ?_
    refine x_ldan rfl rfl rfl ((rg_pp (W := B8)).lt (i := 0) (show 0 < 1 by decide)) ?_
    refine x_getf rfl rfl ((rg_pp (W := B8)).lt (i := 0) (show 0 < 1 by decide)) ((rg_pp (W := B8)).at (i := 0) rfl) rfl ?_
    refine x_b 2 (S2 := (52, [some (.ref 0), some (.int x1), some (.int x2), some (.int x3)], [.int x2, .int x1, .ref 1], (mk B8), B8.kc, B8.kn)) rfl ?_
    obtain ⟨v16, h15, hr⟩ := bd_some hr
    refine x_cW (RnW.of0 (m_28 (rg_board (W := B8)) h15) ⟨rfl, rfl⟩) rfl rfl rfl rfl (am_recv_v ((rg_board (W := B8)).lt (i := 0) (show 0 < 6 by decide)) ((rg_board (W := B8)).at (i := 0) rfl) rfl) (by omega) ?_
    cases hr
    rw [kr]
    exact x_ret rfl rfl am_ret_i
  rcases ite_some hr with ⟨h17, hr⟩ | ⟨h17, hr⟩
  · refine x_tswk rfl rfl h17 rfl ?_
    refine x_ldan rfl rfl rfl ((rg_pp (W := B8)).lt (i := 0) (show 0 < 1 by decide)) ?_
    refine x_getf rfl rfl ((rg_pp (W := B8)).lt (i := 0) (show 0 < 1 by decide)) ((rg_pp (W := B8)).at (i := 0) rfl) rfl ?_
    refine x_b 2 (S2 := (62, [some (.ref 0), some (.int x1), some (.int x2), some (.int x3)], [.int x2, .int x1, .ref 1], (mk B8), B8.kc, B8.kn)) rfl ?_
    obtain ⟨v19, h18, hr⟩ := bd_some hr
    refine x_cW (RnW.of0 (m_29 (rg_board (W := B8)) h18) ⟨rfl, rfl⟩) rfl rfl rfl rfl (am_recv_v ((rg_board (W := B8)).lt (i := 0) (show 0 < 6 by decide)) ((rg_board (W := B8)).at (i := 0) rfl) rfl) (by omega) ?_
    cases hr
    rw [kr]
    exact x_ret rfl rfl am_ret_i
  refine x_tswd rfl rfl (tsw_out 2 (by decide) (fun k hk => match k, hk with | 0, _ => h11 | 1, _ => h14 | 2, _ => h17 | k + 3, hk => absurd hk (by omega))) ⟨by decide, rfl⟩ ?_
  cases hr
  rw [kr]
  exact x_thr rfl (by decide) (by omega) (by decide) rfl
theorem m_115 {scr : ASc} {B : Wd} {x1 : Int32} {x2 : Int32} {x3 : Int32} {o : (Int32 ⊕ Nat) × Wd} (hr : F_115 B x1 x2 x3 = some o) : RnW scr 9 115 [.ref 0, .int x1, .int x2, .int x3] B (xI o.1) o.2 :=
  x_methW (M := am_M115) rfl (show 4 ≤ 4 by decide) (f_115 (Nat.le_refl _) hr rfl)
