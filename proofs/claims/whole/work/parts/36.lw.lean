/-- PebbleProofsLaw.append(LPebbleProofs;IIIII[J)I -/
def F_263 (B : Wd) (x1 : Int32) (x2 : Int32) (x3 : Int32) (x4 : Int32) (x5 : Int32) : Option (Int32 × Wd) :=
  (F_80 B x1 x2 x3 x4 x5).bind fun (r2, B3) =>
  xq r2 (fun X4 =>
    if X4 = 0 then (
      some (1, B3)) else none) fun v5 =>
  (ix 0 1).bind fun i7 =>
  (some (vp_updL B3.out i7 v5.toInt64)).bind fun o9 =>
  (some (B3.w_out o9)).bind fun B11 =>
  some (0, B11)
theorem f_263 {d : Nat} (hd : 8 ≤ d) {scr : ASc} {res : ARe} {B : Wd} {x1 : Int32} {x2 : Int32} {x3 : Int32} {x4 : Int32} {x5 : Int32} {o : Int32 × Wd} (hr : F_263 B x1 x2 x3 x4 x5 = some o) (kr : res = (.inl (some (.int o.1)), mk o.2, Wd.kc o.2, Wd.kn o.2)) : Ex d am_M263 scr (0, [some (.ref 0), some (.int x1), some (.int x2), some (.int x3), some (.int x4), some (.int x5), some (.ref 46), none], [], (mk B), B.kc, B.kn) res := by
  delta F_263 at hr
  refine x_lda rfl rfl rfl ((rg_out (W := B)).lt (i := 0) (show 0 < 1 by decide)) ?_
  refine x_b 1 (S2 := (3, [some (.ref 0), some (.int x1), some (.int x2), some (.int x3), some (.int x4), some (.int x5), some (.ref 46), none], [.int 0, .ref 46], (mk B), B.kc, B.kn)) rfl ?_
  refine x_ldan rfl rfl rfl ((rg_pp (W := B)).lt (i := 0) (show 0 < 1 by decide)) ?_
  refine x_b 5 (S2 := (11, [some (.ref 0), some (.int x1), some (.int x2), some (.int x3), some (.int x4), some (.int x5), some (.ref 46), none], [.int x5, .int x4, .int x3, .int x2, .int x1, .ref 0, .int 0, .ref 46], (mk B), B.kc, B.kn)) rfl ?_
  obtain ⟨⟨r2, B3⟩, h1, hr⟩ := bd_some hr
  have hr9 := xq_some hr
  clear hr
  rcases hr9 with ⟨X4, rfl, hr⟩ | ⟨v5, rfl, hr⟩
  · rcases ite_some hr with ⟨h6, hr⟩ | ⟨h6, hr⟩
    · subst h6
      refine x_cH (m_80 h1) rfl rfl rfl rfl (am_recv_v ((rg_pp (W := B)).lt (i := 0) (show 0 < 1 by decide)) ((rg_pp (W := B)).at (i := 0) rfl) rfl) (by omega) rfl rfl ?_
      refine x_b 1 (S2 := (22, [some (.ref 0), some (.int x1), some (.int x2), some (.int x3), some (.int x4), some (.int x5), some (.ref 46), none], [.int 1], (mk B3), B3.kc, B3.kn)) rfl ?_
      cases hr
      rw [kr]
      exact x_ret rfl rfl am_ret_i
    cases hr
  refine x_cW (m_80 h1) rfl rfl rfl rfl (am_recv_v ((rg_pp (W := B)).lt (i := 0) (show 0 < 1 by decide)) ((rg_pp (W := B)).at (i := 0) rfl) rfl) (by omega) ?_
  refine x_b 1 (S2 := (15, [some (.ref 0), some (.int x1), some (.int x2), some (.int x3), some (.int x4), some (.int x5), some (.ref 46), none], [.long v5.toInt64, .int 0, .ref 46], (mk B3), B3.kc, B3.kn)) rfl ?_
  obtain ⟨i7, h8, hr⟩ := bd_some hr
  obtain ⟨o9, h10, hr⟩ := bd_some hr
  obtain ⟨B11, h12, hr⟩ := bd_some hr
  refine x_last (H := (mk B11)) rfl rfl ((rg_out (W := B3)).lt (i := 0) (show 0 < 1 by decide)) ((rg_out (W := B3)).at (i := 0) rfl) h8 (ws_out (i := 0) (Lr.s_ h10) h12 (by decide)) ?_
  refine x_kk (kk_out h12) ?_
  refine x_b 2 (S2 := (24, [some (.ref 0), some (.int x1), some (.int x2), some (.int x3), some (.int x4), some (.int x5), some (.ref 46), none], [.int 0], (mk B11), B11.kc, B11.kn)) rfl ?_
  cases hr
  rw [kr]
  exact x_ret rfl rfl am_ret_i
theorem m_263 {B : Wd} {x1 : Int32} {x2 : Int32} {x3 : Int32} {x4 : Int32} {x5 : Int32} {o : Int32 × Wd} (hr : F_263 B x1 x2 x3 x4 x5 = some o) : RnW 9 263 [.ref 0, .int x1, .int x2, .int x3, .int x4, .int x5, .ref 46] B (.inl (some (.int o.1))) o.2 :=
  x_methW (M := am_M263) rfl (show 7 ≤ 8 by decide) (f_263 (Nat.le_refl _) hr rfl)
/-- PebbleProofsLaw.truncate(LPebbleProofs;I[J)I -/
def F_264 (B : Wd) (x1 : Int32) : Option (Int32 × Wd) :=
  (F_81 B x1).bind fun (r2, B3) =>
  xq r2 (fun X4 =>
    if X4 = 1 then (
      some (1, B3)) else none) fun v5 =>
  (ix 0 1).bind fun i7 =>
  (some (vp_updL B3.out i7 v5.toInt64)).bind fun o9 =>
  (some (B3.w_out o9)).bind fun B11 =>
  some (0, B11)
theorem f_264 {d : Nat} (hd : 8 ≤ d) {scr : ASc} {res : ARe} {B : Wd} {x1 : Int32} {o : Int32 × Wd} (hr : F_264 B x1 = some o) (kr : res = (.inl (some (.int o.1)), mk o.2, Wd.kc o.2, Wd.kn o.2)) : Ex d am_M264 scr (0, [some (.ref 0), some (.int x1), some (.ref 46), none], [], (mk B), B.kc, B.kn) res := by
  delta F_264 at hr
  refine x_ldan rfl rfl rfl ((rg_out (W := B)).lt (i := 0) (show 0 < 1 by decide)) ?_
  refine x_b 1 (S2 := (2, [some (.ref 0), some (.int x1), some (.ref 46), none], [.int 0, .ref 46], (mk B), B.kc, B.kn)) rfl ?_
  refine x_ldan rfl rfl rfl ((rg_pp (W := B)).lt (i := 0) (show 0 < 1 by decide)) ?_
  refine x_b 1 (S2 := (4, [some (.ref 0), some (.int x1), some (.ref 46), none], [.int x1, .ref 0, .int 0, .ref 46], (mk B), B.kc, B.kn)) rfl ?_
  obtain ⟨⟨r2, B3⟩, h1, hr⟩ := bd_some hr
  have hr9 := xq_some hr
  clear hr
  rcases hr9 with ⟨X4, rfl, hr⟩ | ⟨v5, rfl, hr⟩
  · rcases ite_some hr with ⟨h6, hr⟩ | ⟨h6, hr⟩
    · subst h6
      refine x_cH (m_81 h1) rfl rfl rfl rfl (am_recv_v ((rg_pp (W := B)).lt (i := 0) (show 0 < 1 by decide)) ((rg_pp (W := B)).at (i := 0) rfl) rfl) (by omega) rfl rfl ?_
      refine x_b 1 (S2 := (14, [some (.ref 0), some (.int x1), some (.ref 46), none], [.int 1], (mk B3), B3.kc, B3.kn)) rfl ?_
      cases hr
      rw [kr]
      exact x_ret rfl rfl am_ret_i
    cases hr
  refine x_cW (m_81 h1) rfl rfl rfl rfl (am_recv_v ((rg_pp (W := B)).lt (i := 0) (show 0 < 1 by decide)) ((rg_pp (W := B)).at (i := 0) rfl) rfl) (by omega) ?_
  refine x_b 1 (S2 := (8, [some (.ref 0), some (.int x1), some (.ref 46), none], [.long v5.toInt64, .int 0, .ref 46], (mk B3), B3.kc, B3.kn)) rfl ?_
  obtain ⟨i7, h8, hr⟩ := bd_some hr
  obtain ⟨o9, h10, hr⟩ := bd_some hr
  obtain ⟨B11, h12, hr⟩ := bd_some hr
  refine x_last (H := (mk B11)) rfl rfl ((rg_out (W := B3)).lt (i := 0) (show 0 < 1 by decide)) ((rg_out (W := B3)).at (i := 0) rfl) h8 (ws_out (i := 0) (Lr.s_ h10) h12 (by decide)) ?_
  refine x_kk (kk_out h12) ?_
  refine x_b 2 (S2 := (16, [some (.ref 0), some (.int x1), some (.ref 46), none], [.int 0], (mk B11), B11.kc, B11.kn)) rfl ?_
  cases hr
  rw [kr]
  exact x_ret rfl rfl am_ret_i
theorem m_264 {B : Wd} {x1 : Int32} {o : Int32 × Wd} (hr : F_264 B x1 = some o) : RnW 9 264 [.ref 0, .int x1, .ref 46] B (.inl (some (.int o.1))) o.2 :=
  x_methW (M := am_M264) rfl (show 3 ≤ 4 by decide) (f_264 (Nat.le_refl _) hr rfl)
/-- PebbleProofsLaw.load(LPebbleProofs;[J)I -/
def F_265 (B : Wd) : Option (Int32 × Wd) :=
  (F_83 B).bind fun (r2, B3) =>
  xq r2 (fun X4 =>
    if X4 = 1 then (
      some (1, B3)) else none) fun v5 =>
  (ix 0 1).bind fun i7 =>
  (some (vp_updL B3.out i7 v5.toInt64)).bind fun o9 =>
  (some (B3.w_out o9)).bind fun B11 =>
  some (0, B11)
theorem f_265 {d : Nat} (hd : 10 ≤ d) {scr : ASc} {res : ARe} {B : Wd} {o : Int32 × Wd} (hr : F_265 B = some o) (kr : res = (.inl (some (.int o.1)), mk o.2, Wd.kc o.2, Wd.kn o.2)) : Ex d am_M265 scr (0, [some (.ref 0), some (.ref 46), none], [], (mk B), B.kc, B.kn) res := by
  delta F_265 at hr
  refine x_ldan rfl rfl rfl ((rg_out (W := B)).lt (i := 0) (show 0 < 1 by decide)) ?_
  refine x_b 1 (S2 := (2, [some (.ref 0), some (.ref 46), none], [.int 0, .ref 46], (mk B), B.kc, B.kn)) rfl ?_
  refine x_ldan rfl rfl rfl ((rg_pp (W := B)).lt (i := 0) (show 0 < 1 by decide)) ?_
  obtain ⟨⟨r2, B3⟩, h1, hr⟩ := bd_some hr
  have hr9 := xq_some hr
  clear hr
  rcases hr9 with ⟨X4, rfl, hr⟩ | ⟨v5, rfl, hr⟩
  · rcases ite_some hr with ⟨h6, hr⟩ | ⟨h6, hr⟩
    · subst h6
      refine x_cH (m_83 h1) rfl rfl rfl rfl (am_recv_v ((rg_pp (W := B)).lt (i := 0) (show 0 < 1 by decide)) ((rg_pp (W := B)).at (i := 0) rfl) rfl) (by omega) rfl rfl ?_
      refine x_b 1 (S2 := (13, [some (.ref 0), some (.ref 46), none], [.int 1], (mk B3), B3.kc, B3.kn)) rfl ?_
      cases hr
      rw [kr]
      exact x_ret rfl rfl am_ret_i
    cases hr
  refine x_cW (m_83 h1) rfl rfl rfl rfl (am_recv_v ((rg_pp (W := B)).lt (i := 0) (show 0 < 1 by decide)) ((rg_pp (W := B)).at (i := 0) rfl) rfl) (by omega) ?_
  refine x_b 1 (S2 := (7, [some (.ref 0), some (.ref 46), none], [.long v5.toInt64, .int 0, .ref 46], (mk B3), B3.kc, B3.kn)) rfl ?_
  obtain ⟨i7, h8, hr⟩ := bd_some hr
  obtain ⟨o9, h10, hr⟩ := bd_some hr
  obtain ⟨B11, h12, hr⟩ := bd_some hr
  refine x_last (H := (mk B11)) rfl rfl ((rg_out (W := B3)).lt (i := 0) (show 0 < 1 by decide)) ((rg_out (W := B3)).at (i := 0) rfl) h8 (ws_out (i := 0) (Lr.s_ h10) h12 (by decide)) ?_
  refine x_kk (kk_out h12) ?_
  refine x_b 2 (S2 := (15, [some (.ref 0), some (.ref 46), none], [.int 0], (mk B11), B11.kc, B11.kn)) rfl ?_
  cases hr
  rw [kr]
  exact x_ret rfl rfl am_ret_i
theorem m_265 {B : Wd} {o : Int32 × Wd} (hr : F_265 B = some o) : RnW 11 265 [.ref 0, .ref 46] B (.inl (some (.int o.1))) o.2 :=
  x_methW (M := am_M265) rfl (show 2 ≤ 3 by decide) (f_265 (Nat.le_refl _) hr rfl)
/-- PebbleProofsLaw.addEdge(LPebbleProofs;II[J)I -/
def F_266 (B : Wd) (x1 : Int32) (x2 : Int32) : Option (Int32 × Wd) :=
  (F_84 B x1 x2).bind fun (r2, B3) =>
  xq r2 (fun X4 =>
    if X4 = 2 then (
      some (1, B3)) else if X4 = 1 then (
      some (2, B3)) else if X4 = 0 then (
      some (3, B3)) else none) fun v5 =>
  (ix 0 1).bind fun i9 =>
  (some (vp_updL B3.out i9 v5.toInt64)).bind fun o11 =>
  (some (B3.w_out o11)).bind fun B13 =>
  some (0, B13)
theorem f_266 {d : Nat} (hd : 10 ≤ d) {scr : ASc} {res : ARe} {B : Wd} {x1 : Int32} {x2 : Int32} {o : Int32 × Wd} (hr : F_266 B x1 x2 = some o) (kr : res = (.inl (some (.int o.1)), mk o.2, Wd.kc o.2, Wd.kn o.2)) : Ex d am_M266 scr (0, [some (.ref 0), some (.int x1), some (.int x2), some (.ref 46), none], [], (mk B), B.kc, B.kn) res := by
  delta F_266 at hr
  refine x_ldan rfl rfl rfl ((rg_out (W := B)).lt (i := 0) (show 0 < 1 by decide)) ?_
  refine x_b 1 (S2 := (2, [some (.ref 0), some (.int x1), some (.int x2), some (.ref 46), none], [.int 0, .ref 46], (mk B), B.kc, B.kn)) rfl ?_
  refine x_ldan rfl rfl rfl ((rg_pp (W := B)).lt (i := 0) (show 0 < 1 by decide)) ?_
  refine x_b 2 (S2 := (5, [some (.ref 0), some (.int x1), some (.int x2), some (.ref 46), none], [.int x2, .int x1, .ref 0, .int 0, .ref 46], (mk B), B.kc, B.kn)) rfl ?_
  obtain ⟨⟨r2, B3⟩, h1, hr⟩ := bd_some hr
  have hr9 := xq_some hr
  clear hr
  rcases hr9 with ⟨X4, rfl, hr⟩ | ⟨v5, rfl, hr⟩
  · rcases ite_some hr with ⟨h6, hr⟩ | ⟨h6, hr⟩
    · subst h6
      refine x_cH (m_84 h1) rfl rfl rfl rfl (am_recv_v ((rg_pp (W := B)).lt (i := 0) (show 0 < 1 by decide)) ((rg_pp (W := B)).at (i := 0) rfl) rfl) (by omega) rfl rfl ?_
      refine x_b 1 (S2 := (16, [some (.ref 0), some (.int x1), some (.int x2), some (.ref 46), none], [.int 1], (mk B3), B3.kc, B3.kn)) rfl ?_
      cases hr
      rw [kr]
      exact x_ret rfl rfl am_ret_i
    rcases ite_some hr with ⟨h7, hr⟩ | ⟨h7, hr⟩
    · subst h7
      refine x_cH (m_84 h1) rfl rfl rfl rfl (am_recv_v ((rg_pp (W := B)).lt (i := 0) (show 0 < 1 by decide)) ((rg_pp (W := B)).at (i := 0) rfl) rfl) (by omega) rfl rfl ?_
      refine x_b 1 (S2 := (20, [some (.ref 0), some (.int x1), some (.int x2), some (.ref 46), none], [.int 2], (mk B3), B3.kc, B3.kn)) rfl ?_
      cases hr
      rw [kr]
      exact x_ret rfl rfl am_ret_i
    rcases ite_some hr with ⟨h8, hr⟩ | ⟨h8, hr⟩
    · subst h8
      refine x_cH (m_84 h1) rfl rfl rfl rfl (am_recv_v ((rg_pp (W := B)).lt (i := 0) (show 0 < 1 by decide)) ((rg_pp (W := B)).at (i := 0) rfl) rfl) (by omega) rfl rfl ?_
      refine x_b 1 (S2 := (24, [some (.ref 0), some (.int x1), some (.int x2), some (.ref 46), none], [.int 3], (mk B3), B3.kc, B3.kn)) rfl ?_
      cases hr
      rw [kr]
      exact x_ret rfl rfl am_ret_i
    cases hr
  refine x_cW (m_84 h1) rfl rfl rfl rfl (am_recv_v ((rg_pp (W := B)).lt (i := 0) (show 0 < 1 by decide)) ((rg_pp (W := B)).at (i := 0) rfl) rfl) (by omega) ?_
  refine x_b 1 (S2 := (9, [some (.ref 0), some (.int x1), some (.int x2), some (.ref 46), none], [.long v5.toInt64, .int 0, .ref 46], (mk B3), B3.kc, B3.kn)) rfl ?_
  obtain ⟨i9, h10, hr⟩ := bd_some hr
  obtain ⟨o11, h12, hr⟩ := bd_some hr
  obtain ⟨B13, h14, hr⟩ := bd_some hr
  refine x_last (H := (mk B13)) rfl rfl ((rg_out (W := B3)).lt (i := 0) (show 0 < 1 by decide)) ((rg_out (W := B3)).at (i := 0) rfl) h10 (ws_out (i := 0) (Lr.s_ h12) h14 (by decide)) ?_
  refine x_kk (kk_out h14) ?_
  refine x_b 2 (S2 := (26, [some (.ref 0), some (.int x1), some (.int x2), some (.ref 46), none], [.int 0], (mk B13), B13.kc, B13.kn)) rfl ?_
  cases hr
  rw [kr]
  exact x_ret rfl rfl am_ret_i
theorem m_266 {B : Wd} {x1 : Int32} {x2 : Int32} {o : Int32 × Wd} (hr : F_266 B x1 x2 = some o) : RnW 11 266 [.ref 0, .int x1, .int x2, .ref 46] B (.inl (some (.int o.1))) o.2 :=
  x_methW (M := am_M266) rfl (show 4 ≤ 5 by decide) (f_266 (Nat.le_refl _) hr rfl)
/-- PebbleProofsLaw.removeEdge(LPebbleProofs;II[J)I -/
def F_267 (B : Wd) (x1 : Int32) (x2 : Int32) : Option (Int32 × Wd) :=
  (F_85 B x1 x2).bind fun (r2, B3) =>
  xq r2 (fun X4 =>
    if X4 = 2 then (
      some (1, B3)) else if X4 = 1 then (
      some (2, B3)) else if X4 = 0 then (
      some (3, B3)) else none) fun v5 =>
  (ix 0 1).bind fun i9 =>
  (some (vp_updL B3.out i9 v5.toInt64)).bind fun o11 =>
  (some (B3.w_out o11)).bind fun B13 =>
  some (0, B13)
theorem f_267 {d : Nat} (hd : 10 ≤ d) {scr : ASc} {res : ARe} {B : Wd} {x1 : Int32} {x2 : Int32} {o : Int32 × Wd} (hr : F_267 B x1 x2 = some o) (kr : res = (.inl (some (.int o.1)), mk o.2, Wd.kc o.2, Wd.kn o.2)) : Ex d am_M267 scr (0, [some (.ref 0), some (.int x1), some (.int x2), some (.ref 46), none], [], (mk B), B.kc, B.kn) res := by
  delta F_267 at hr
  refine x_ldan rfl rfl rfl ((rg_out (W := B)).lt (i := 0) (show 0 < 1 by decide)) ?_
  refine x_b 1 (S2 := (2, [some (.ref 0), some (.int x1), some (.int x2), some (.ref 46), none], [.int 0, .ref 46], (mk B), B.kc, B.kn)) rfl ?_
  refine x_ldan rfl rfl rfl ((rg_pp (W := B)).lt (i := 0) (show 0 < 1 by decide)) ?_
  refine x_b 2 (S2 := (5, [some (.ref 0), some (.int x1), some (.int x2), some (.ref 46), none], [.int x2, .int x1, .ref 0, .int 0, .ref 46], (mk B), B.kc, B.kn)) rfl ?_
  obtain ⟨⟨r2, B3⟩, h1, hr⟩ := bd_some hr
  have hr9 := xq_some hr
  clear hr
  rcases hr9 with ⟨X4, rfl, hr⟩ | ⟨v5, rfl, hr⟩
  · rcases ite_some hr with ⟨h6, hr⟩ | ⟨h6, hr⟩
    · subst h6
      refine x_cH (m_85 h1) rfl rfl rfl rfl (am_recv_v ((rg_pp (W := B)).lt (i := 0) (show 0 < 1 by decide)) ((rg_pp (W := B)).at (i := 0) rfl) rfl) (by omega) rfl rfl ?_
      refine x_b 1 (S2 := (16, [some (.ref 0), some (.int x1), some (.int x2), some (.ref 46), none], [.int 1], (mk B3), B3.kc, B3.kn)) rfl ?_
      cases hr
      rw [kr]
      exact x_ret rfl rfl am_ret_i
    rcases ite_some hr with ⟨h7, hr⟩ | ⟨h7, hr⟩
    · subst h7
      refine x_cH (m_85 h1) rfl rfl rfl rfl (am_recv_v ((rg_pp (W := B)).lt (i := 0) (show 0 < 1 by decide)) ((rg_pp (W := B)).at (i := 0) rfl) rfl) (by omega) rfl rfl ?_
      refine x_b 1 (S2 := (20, [some (.ref 0), some (.int x1), some (.int x2), some (.ref 46), none], [.int 2], (mk B3), B3.kc, B3.kn)) rfl ?_
      cases hr
      rw [kr]
      exact x_ret rfl rfl am_ret_i
    rcases ite_some hr with ⟨h8, hr⟩ | ⟨h8, hr⟩
    · subst h8
      refine x_cH (m_85 h1) rfl rfl rfl rfl (am_recv_v ((rg_pp (W := B)).lt (i := 0) (show 0 < 1 by decide)) ((rg_pp (W := B)).at (i := 0) rfl) rfl) (by omega) rfl rfl ?_
      refine x_b 1 (S2 := (24, [some (.ref 0), some (.int x1), some (.int x2), some (.ref 46), none], [.int 3], (mk B3), B3.kc, B3.kn)) rfl ?_
      cases hr
      rw [kr]
      exact x_ret rfl rfl am_ret_i
    cases hr
  refine x_cW (m_85 h1) rfl rfl rfl rfl (am_recv_v ((rg_pp (W := B)).lt (i := 0) (show 0 < 1 by decide)) ((rg_pp (W := B)).at (i := 0) rfl) rfl) (by omega) ?_
  refine x_b 1 (S2 := (9, [some (.ref 0), some (.int x1), some (.int x2), some (.ref 46), none], [.long v5.toInt64, .int 0, .ref 46], (mk B3), B3.kc, B3.kn)) rfl ?_
  obtain ⟨i9, h10, hr⟩ := bd_some hr
  obtain ⟨o11, h12, hr⟩ := bd_some hr
  obtain ⟨B13, h14, hr⟩ := bd_some hr
  refine x_last (H := (mk B13)) rfl rfl ((rg_out (W := B3)).lt (i := 0) (show 0 < 1 by decide)) ((rg_out (W := B3)).at (i := 0) rfl) h10 (ws_out (i := 0) (Lr.s_ h12) h14 (by decide)) ?_
  refine x_kk (kk_out h14) ?_
  refine x_b 2 (S2 := (26, [some (.ref 0), some (.int x1), some (.int x2), some (.ref 46), none], [.int 0], (mk B13), B13.kc, B13.kn)) rfl ?_
  cases hr
  rw [kr]
  exact x_ret rfl rfl am_ret_i
theorem m_267 {B : Wd} {x1 : Int32} {x2 : Int32} {o : Int32 × Wd} (hr : F_267 B x1 x2 = some o) : RnW 11 267 [.ref 0, .int x1, .int x2, .ref 46] B (.inl (some (.int o.1))) o.2 :=
  x_methW (M := am_M267) rfl (show 4 ≤ 5 by decide) (f_267 (Nat.le_refl _) hr rfl)
/-- PebbleProofsLaw.put(LPebbleProofs;II[J)I -/
def F_268 (B : Wd) (x1 : Int32) (x2 : Int32) : Option (Int32 × Wd) :=
  (F_86 B x1 x2).bind fun (r2, B3) =>
  xq r2 (fun X4 =>
    if X4 = 2 then (
      some (1, B3)) else if X4 = 1 then (
      some (2, B3)) else none) fun v5 =>
  (ix 0 1).bind fun i8 =>
  (some (vp_updL B3.out i8 v5.toInt64)).bind fun o10 =>
  (some (B3.w_out o10)).bind fun B12 =>
  some (0, B12)
theorem f_268 {d : Nat} (hd : 9 ≤ d) {scr : ASc} {res : ARe} {B : Wd} {x1 : Int32} {x2 : Int32} {o : Int32 × Wd} (hr : F_268 B x1 x2 = some o) (kr : res = (.inl (some (.int o.1)), mk o.2, Wd.kc o.2, Wd.kn o.2)) : Ex d am_M268 scr (0, [some (.ref 0), some (.int x1), some (.int x2), some (.ref 46), none], [], (mk B), B.kc, B.kn) res := by
  delta F_268 at hr
  refine x_ldan rfl rfl rfl ((rg_out (W := B)).lt (i := 0) (show 0 < 1 by decide)) ?_
  refine x_b 1 (S2 := (2, [some (.ref 0), some (.int x1), some (.int x2), some (.ref 46), none], [.int 0, .ref 46], (mk B), B.kc, B.kn)) rfl ?_
  refine x_ldan rfl rfl rfl ((rg_pp (W := B)).lt (i := 0) (show 0 < 1 by decide)) ?_
  refine x_b 2 (S2 := (5, [some (.ref 0), some (.int x1), some (.int x2), some (.ref 46), none], [.int x2, .int x1, .ref 0, .int 0, .ref 46], (mk B), B.kc, B.kn)) rfl ?_
  obtain ⟨⟨r2, B3⟩, h1, hr⟩ := bd_some hr
  have hr9 := xq_some hr
  clear hr
  rcases hr9 with ⟨X4, rfl, hr⟩ | ⟨v5, rfl, hr⟩
  · rcases ite_some hr with ⟨h6, hr⟩ | ⟨h6, hr⟩
    · subst h6
      refine x_cH (m_86 h1) rfl rfl rfl rfl (am_recv_v ((rg_pp (W := B)).lt (i := 0) (show 0 < 1 by decide)) ((rg_pp (W := B)).at (i := 0) rfl) rfl) (by omega) rfl rfl ?_
      refine x_b 1 (S2 := (16, [some (.ref 0), some (.int x1), some (.int x2), some (.ref 46), none], [.int 1], (mk B3), B3.kc, B3.kn)) rfl ?_
      cases hr
      rw [kr]
      exact x_ret rfl rfl am_ret_i
    rcases ite_some hr with ⟨h7, hr⟩ | ⟨h7, hr⟩
    · subst h7
      refine x_cH (m_86 h1) rfl rfl rfl rfl (am_recv_v ((rg_pp (W := B)).lt (i := 0) (show 0 < 1 by decide)) ((rg_pp (W := B)).at (i := 0) rfl) rfl) (by omega) rfl rfl ?_
      refine x_b 1 (S2 := (20, [some (.ref 0), some (.int x1), some (.int x2), some (.ref 46), none], [.int 2], (mk B3), B3.kc, B3.kn)) rfl ?_
      cases hr
      rw [kr]
      exact x_ret rfl rfl am_ret_i
    cases hr
  refine x_cW (m_86 h1) rfl rfl rfl rfl (am_recv_v ((rg_pp (W := B)).lt (i := 0) (show 0 < 1 by decide)) ((rg_pp (W := B)).at (i := 0) rfl) rfl) (by omega) ?_
  refine x_b 1 (S2 := (9, [some (.ref 0), some (.int x1), some (.int x2), some (.ref 46), none], [.long v5.toInt64, .int 0, .ref 46], (mk B3), B3.kc, B3.kn)) rfl ?_
  obtain ⟨i8, h9, hr⟩ := bd_some hr
  obtain ⟨o10, h11, hr⟩ := bd_some hr
  obtain ⟨B12, h13, hr⟩ := bd_some hr
  refine x_last (H := (mk B12)) rfl rfl ((rg_out (W := B3)).lt (i := 0) (show 0 < 1 by decide)) ((rg_out (W := B3)).at (i := 0) rfl) h9 (ws_out (i := 0) (Lr.s_ h11) h13 (by decide)) ?_
  refine x_kk (kk_out h13) ?_
  refine x_b 2 (S2 := (22, [some (.ref 0), some (.int x1), some (.int x2), some (.ref 46), none], [.int 0], (mk B12), B12.kc, B12.kn)) rfl ?_
  cases hr
  rw [kr]
  exact x_ret rfl rfl am_ret_i
theorem m_268 {B : Wd} {x1 : Int32} {x2 : Int32} {o : Int32 × Wd} (hr : F_268 B x1 x2 = some o) : RnW 10 268 [.ref 0, .int x1, .int x2, .ref 46] B (.inl (some (.int o.1))) o.2 :=
  x_methW (M := am_M268) rfl (show 4 ≤ 5 by decide) (f_268 (Nat.le_refl _) hr rfl)
/-- PebbleProofsLaw.take(LPebbleProofs;II[J)I -/
def F_269 (B : Wd) (x1 : Int32) (x2 : Int32) : Option (Int32 × Wd) :=
  (F_87 B x1 x2).bind fun (r2, B3) =>
  xq r2 (fun X4 =>
    if X4 = 2 then (
      some (1, B3)) else if X4 = 1 then (
      some (2, B3)) else if X4 = 0 then (
      some (3, B3)) else none) fun v5 =>
  (ix 0 1).bind fun i9 =>
  (some (vp_updL B3.out i9 v5.toInt64)).bind fun o11 =>
  (some (B3.w_out o11)).bind fun B13 =>
  some (0, B13)
theorem f_269 {d : Nat} (hd : 9 ≤ d) {scr : ASc} {res : ARe} {B : Wd} {x1 : Int32} {x2 : Int32} {o : Int32 × Wd} (hr : F_269 B x1 x2 = some o) (kr : res = (.inl (some (.int o.1)), mk o.2, Wd.kc o.2, Wd.kn o.2)) : Ex d am_M269 scr (0, [some (.ref 0), some (.int x1), some (.int x2), some (.ref 46), none], [], (mk B), B.kc, B.kn) res := by
  delta F_269 at hr
  refine x_ldan rfl rfl rfl ((rg_out (W := B)).lt (i := 0) (show 0 < 1 by decide)) ?_
  refine x_b 1 (S2 := (2, [some (.ref 0), some (.int x1), some (.int x2), some (.ref 46), none], [.int 0, .ref 46], (mk B), B.kc, B.kn)) rfl ?_
  refine x_ldan rfl rfl rfl ((rg_pp (W := B)).lt (i := 0) (show 0 < 1 by decide)) ?_
  refine x_b 2 (S2 := (5, [some (.ref 0), some (.int x1), some (.int x2), some (.ref 46), none], [.int x2, .int x1, .ref 0, .int 0, .ref 46], (mk B), B.kc, B.kn)) rfl ?_
  obtain ⟨⟨r2, B3⟩, h1, hr⟩ := bd_some hr
  have hr9 := xq_some hr
  clear hr
  rcases hr9 with ⟨X4, rfl, hr⟩ | ⟨v5, rfl, hr⟩
  · rcases ite_some hr with ⟨h6, hr⟩ | ⟨h6, hr⟩
    · subst h6
      refine x_cH (m_87 h1) rfl rfl rfl rfl (am_recv_v ((rg_pp (W := B)).lt (i := 0) (show 0 < 1 by decide)) ((rg_pp (W := B)).at (i := 0) rfl) rfl) (by omega) rfl rfl ?_
      refine x_b 1 (S2 := (16, [some (.ref 0), some (.int x1), some (.int x2), some (.ref 46), none], [.int 1], (mk B3), B3.kc, B3.kn)) rfl ?_
      cases hr
      rw [kr]
      exact x_ret rfl rfl am_ret_i
    rcases ite_some hr with ⟨h7, hr⟩ | ⟨h7, hr⟩
    · subst h7
      refine x_cH (m_87 h1) rfl rfl rfl rfl (am_recv_v ((rg_pp (W := B)).lt (i := 0) (show 0 < 1 by decide)) ((rg_pp (W := B)).at (i := 0) rfl) rfl) (by omega) rfl rfl ?_
      refine x_b 1 (S2 := (20, [some (.ref 0), some (.int x1), some (.int x2), some (.ref 46), none], [.int 2], (mk B3), B3.kc, B3.kn)) rfl ?_
      cases hr
      rw [kr]
      exact x_ret rfl rfl am_ret_i
    rcases ite_some hr with ⟨h8, hr⟩ | ⟨h8, hr⟩
    · subst h8
      refine x_cH (m_87 h1) rfl rfl rfl rfl (am_recv_v ((rg_pp (W := B)).lt (i := 0) (show 0 < 1 by decide)) ((rg_pp (W := B)).at (i := 0) rfl) rfl) (by omega) rfl rfl ?_
      refine x_b 1 (S2 := (24, [some (.ref 0), some (.int x1), some (.int x2), some (.ref 46), none], [.int 3], (mk B3), B3.kc, B3.kn)) rfl ?_
      cases hr
      rw [kr]
      exact x_ret rfl rfl am_ret_i
    cases hr
  refine x_cW (m_87 h1) rfl rfl rfl rfl (am_recv_v ((rg_pp (W := B)).lt (i := 0) (show 0 < 1 by decide)) ((rg_pp (W := B)).at (i := 0) rfl) rfl) (by omega) ?_
  refine x_b 1 (S2 := (9, [some (.ref 0), some (.int x1), some (.int x2), some (.ref 46), none], [.long v5.toInt64, .int 0, .ref 46], (mk B3), B3.kc, B3.kn)) rfl ?_
  obtain ⟨i9, h10, hr⟩ := bd_some hr
  obtain ⟨o11, h12, hr⟩ := bd_some hr
  obtain ⟨B13, h14, hr⟩ := bd_some hr
  refine x_last (H := (mk B13)) rfl rfl ((rg_out (W := B3)).lt (i := 0) (show 0 < 1 by decide)) ((rg_out (W := B3)).at (i := 0) rfl) h10 (ws_out (i := 0) (Lr.s_ h12) h14 (by decide)) ?_
  refine x_kk (kk_out h14) ?_
  refine x_b 2 (S2 := (26, [some (.ref 0), some (.int x1), some (.int x2), some (.ref 46), none], [.int 0], (mk B13), B13.kc, B13.kn)) rfl ?_
  cases hr
  rw [kr]
  exact x_ret rfl rfl am_ret_i
theorem m_269 {B : Wd} {x1 : Int32} {x2 : Int32} {o : Int32 × Wd} (hr : F_269 B x1 x2 = some o) : RnW 10 269 [.ref 0, .int x1, .int x2, .ref 46] B (.inl (some (.int o.1))) o.2 :=
  x_methW (M := am_M269) rfl (show 4 ≤ 5 by decide) (f_269 (Nat.le_refl _) hr rfl)
/-- PebbleProofsLaw.move(LPebbleProofs;II[J)I -/
def F_270 (B : Wd) (x1 : Int32) (x2 : Int32) : Option (Int32 × Wd) :=
  (F_88 B x1 x2).bind fun (r2, B3) =>
  xq r2 (fun X4 =>
    if X4 = 2 then (
      some (1, B3)) else if X4 = 0 then (
      some (2, B3)) else none) fun v5 =>
  (ix 0 1).bind fun i8 =>
  (some (vp_updL B3.out i8 v5.toInt64)).bind fun o10 =>
  (some (B3.w_out o10)).bind fun B12 =>
  some (0, B12)
theorem f_270 {d : Nat} (hd : 9 ≤ d) {scr : ASc} {res : ARe} {B : Wd} {x1 : Int32} {x2 : Int32} {o : Int32 × Wd} (hr : F_270 B x1 x2 = some o) (kr : res = (.inl (some (.int o.1)), mk o.2, Wd.kc o.2, Wd.kn o.2)) : Ex d am_M270 scr (0, [some (.ref 0), some (.int x1), some (.int x2), some (.ref 46), none], [], (mk B), B.kc, B.kn) res := by
  delta F_270 at hr
  refine x_ldan rfl rfl rfl ((rg_out (W := B)).lt (i := 0) (show 0 < 1 by decide)) ?_
  refine x_b 1 (S2 := (2, [some (.ref 0), some (.int x1), some (.int x2), some (.ref 46), none], [.int 0, .ref 46], (mk B), B.kc, B.kn)) rfl ?_
  refine x_ldan rfl rfl rfl ((rg_pp (W := B)).lt (i := 0) (show 0 < 1 by decide)) ?_
  refine x_b 2 (S2 := (5, [some (.ref 0), some (.int x1), some (.int x2), some (.ref 46), none], [.int x2, .int x1, .ref 0, .int 0, .ref 46], (mk B), B.kc, B.kn)) rfl ?_
  obtain ⟨⟨r2, B3⟩, h1, hr⟩ := bd_some hr
  have hr9 := xq_some hr
  clear hr
  rcases hr9 with ⟨X4, rfl, hr⟩ | ⟨v5, rfl, hr⟩
  · rcases ite_some hr with ⟨h6, hr⟩ | ⟨h6, hr⟩
    · subst h6
      refine x_cH (m_88 h1) rfl rfl rfl rfl (am_recv_v ((rg_pp (W := B)).lt (i := 0) (show 0 < 1 by decide)) ((rg_pp (W := B)).at (i := 0) rfl) rfl) (by omega) rfl rfl ?_
      refine x_b 1 (S2 := (16, [some (.ref 0), some (.int x1), some (.int x2), some (.ref 46), none], [.int 1], (mk B3), B3.kc, B3.kn)) rfl ?_
      cases hr
      rw [kr]
      exact x_ret rfl rfl am_ret_i
    rcases ite_some hr with ⟨h7, hr⟩ | ⟨h7, hr⟩
    · subst h7
      refine x_cH (m_88 h1) rfl rfl rfl rfl (am_recv_v ((rg_pp (W := B)).lt (i := 0) (show 0 < 1 by decide)) ((rg_pp (W := B)).at (i := 0) rfl) rfl) (by omega) rfl rfl ?_
      refine x_b 1 (S2 := (20, [some (.ref 0), some (.int x1), some (.int x2), some (.ref 46), none], [.int 2], (mk B3), B3.kc, B3.kn)) rfl ?_
      cases hr
      rw [kr]
      exact x_ret rfl rfl am_ret_i
    cases hr
  refine x_cW (m_88 h1) rfl rfl rfl rfl (am_recv_v ((rg_pp (W := B)).lt (i := 0) (show 0 < 1 by decide)) ((rg_pp (W := B)).at (i := 0) rfl) rfl) (by omega) ?_
  refine x_b 1 (S2 := (9, [some (.ref 0), some (.int x1), some (.int x2), some (.ref 46), none], [.long v5.toInt64, .int 0, .ref 46], (mk B3), B3.kc, B3.kn)) rfl ?_
  obtain ⟨i8, h9, hr⟩ := bd_some hr
  obtain ⟨o10, h11, hr⟩ := bd_some hr
  obtain ⟨B12, h13, hr⟩ := bd_some hr
  refine x_last (H := (mk B12)) rfl rfl ((rg_out (W := B3)).lt (i := 0) (show 0 < 1 by decide)) ((rg_out (W := B3)).at (i := 0) rfl) h9 (ws_out (i := 0) (Lr.s_ h11) h13 (by decide)) ?_
  refine x_kk (kk_out h13) ?_
  refine x_b 2 (S2 := (22, [some (.ref 0), some (.int x1), some (.int x2), some (.ref 46), none], [.int 0], (mk B12), B12.kc, B12.kn)) rfl ?_
  cases hr
  rw [kr]
  exact x_ret rfl rfl am_ret_i
theorem m_270 {B : Wd} {x1 : Int32} {x2 : Int32} {o : Int32 × Wd} (hr : F_270 B x1 x2 = some o) : RnW 10 270 [.ref 0, .int x1, .int x2, .ref 46] B (.inl (some (.int o.1))) o.2 :=
  x_methW (M := am_M270) rfl (show 4 ≤ 5 by decide) (f_270 (Nat.le_refl _) hr rfl)
/-- PebbleProofsLaw.reach(LPebbleProofs;I[J)I -/
def F_271 (B : Wd) (x1 : Int32) : Option (Int32 × Wd) :=
  (F_89 B x1).bind fun (r2, B3) =>
  xq r2 (fun X4 =>
    if X4 = 2 then (
      some (1, B3)) else if X4 = 0 then (
      some (2, B3)) else none) fun v5 =>
  (ix 0 1).bind fun i8 =>
  (some (vp_updL B3.out i8 v5.toInt64)).bind fun o10 =>
  (some (B3.w_out o10)).bind fun B12 =>
  some (0, B12)
theorem f_271 {d : Nat} (hd : 9 ≤ d) {scr : ASc} {res : ARe} {B : Wd} {x1 : Int32} {o : Int32 × Wd} (hr : F_271 B x1 = some o) (kr : res = (.inl (some (.int o.1)), mk o.2, Wd.kc o.2, Wd.kn o.2)) : Ex d am_M271 scr (0, [some (.ref 0), some (.int x1), some (.ref 46), none], [], (mk B), B.kc, B.kn) res := by
  delta F_271 at hr
  refine x_ldan rfl rfl rfl ((rg_out (W := B)).lt (i := 0) (show 0 < 1 by decide)) ?_
  refine x_b 1 (S2 := (2, [some (.ref 0), some (.int x1), some (.ref 46), none], [.int 0, .ref 46], (mk B), B.kc, B.kn)) rfl ?_
  refine x_ldan rfl rfl rfl ((rg_pp (W := B)).lt (i := 0) (show 0 < 1 by decide)) ?_
  refine x_b 1 (S2 := (4, [some (.ref 0), some (.int x1), some (.ref 46), none], [.int x1, .ref 0, .int 0, .ref 46], (mk B), B.kc, B.kn)) rfl ?_
  obtain ⟨⟨r2, B3⟩, h1, hr⟩ := bd_some hr
  have hr9 := xq_some hr
  clear hr
  rcases hr9 with ⟨X4, rfl, hr⟩ | ⟨v5, rfl, hr⟩
  · rcases ite_some hr with ⟨h6, hr⟩ | ⟨h6, hr⟩
    · subst h6
      refine x_cH (m_89 h1) rfl rfl rfl rfl (am_recv_v ((rg_pp (W := B)).lt (i := 0) (show 0 < 1 by decide)) ((rg_pp (W := B)).at (i := 0) rfl) rfl) (by omega) rfl rfl ?_
      refine x_b 1 (S2 := (14, [some (.ref 0), some (.int x1), some (.ref 46), none], [.int 1], (mk B3), B3.kc, B3.kn)) rfl ?_
      cases hr
      rw [kr]
      exact x_ret rfl rfl am_ret_i
    rcases ite_some hr with ⟨h7, hr⟩ | ⟨h7, hr⟩
    · subst h7
      refine x_cH (m_89 h1) rfl rfl rfl rfl (am_recv_v ((rg_pp (W := B)).lt (i := 0) (show 0 < 1 by decide)) ((rg_pp (W := B)).at (i := 0) rfl) rfl) (by omega) rfl rfl ?_
      refine x_b 1 (S2 := (17, [some (.ref 0), some (.int x1), some (.ref 46), none], [.int 2], (mk B3), B3.kc, B3.kn)) rfl ?_
      cases hr
      rw [kr]
      exact x_ret rfl rfl am_ret_i
    cases hr
  refine x_cW (m_89 h1) rfl rfl rfl rfl (am_recv_v ((rg_pp (W := B)).lt (i := 0) (show 0 < 1 by decide)) ((rg_pp (W := B)).at (i := 0) rfl) rfl) (by omega) ?_
  refine x_b 1 (S2 := (8, [some (.ref 0), some (.int x1), some (.ref 46), none], [.long v5.toInt64, .int 0, .ref 46], (mk B3), B3.kc, B3.kn)) rfl ?_
  obtain ⟨i8, h9, hr⟩ := bd_some hr
  obtain ⟨o10, h11, hr⟩ := bd_some hr
  obtain ⟨B12, h13, hr⟩ := bd_some hr
  refine x_last (H := (mk B12)) rfl rfl ((rg_out (W := B3)).lt (i := 0) (show 0 < 1 by decide)) ((rg_out (W := B3)).at (i := 0) rfl) h9 (ws_out (i := 0) (Lr.s_ h11) h13 (by decide)) ?_
  refine x_kk (kk_out h13) ?_
  refine x_b 2 (S2 := (19, [some (.ref 0), some (.int x1), some (.ref 46), none], [.int 0], (mk B12), B12.kc, B12.kn)) rfl ?_
  cases hr
  rw [kr]
  exact x_ret rfl rfl am_ret_i
theorem m_271 {B : Wd} {x1 : Int32} {o : Int32 × Wd} (hr : F_271 B x1 = some o) : RnW 10 271 [.ref 0, .int x1, .ref 46] B (.inl (some (.int o.1))) o.2 :=
  x_methW (M := am_M271) rfl (show 3 ≤ 4 by decide) (f_271 (Nat.le_refl _) hr rfl)
/-- PebbleProofsLaw.addStrategy(LPebbleProofs;I[J)I -/
def F_272 (B : Wd) (x1 : Int32) : Option (Int32 × Wd) :=
  (F_90 B x1).bind fun (r2, B3) =>
  xq r2 (fun X4 =>
    if X4 = 2 then (
      some (1, B3)) else if X4 = 0 then (
      some (2, B3)) else none) fun v5 =>
  (ix 0 1).bind fun i8 =>
  (some (vp_updL B3.out i8 v5.toInt64)).bind fun o10 =>
  (some (B3.w_out o10)).bind fun B12 =>
  some (0, B12)
theorem f_272 {d : Nat} (hd : 9 ≤ d) {scr : ASc} {res : ARe} {B : Wd} {x1 : Int32} {o : Int32 × Wd} (hr : F_272 B x1 = some o) (kr : res = (.inl (some (.int o.1)), mk o.2, Wd.kc o.2, Wd.kn o.2)) : Ex d am_M272 scr (0, [some (.ref 0), some (.int x1), some (.ref 46), none], [], (mk B), B.kc, B.kn) res := by
  delta F_272 at hr
  refine x_ldan rfl rfl rfl ((rg_out (W := B)).lt (i := 0) (show 0 < 1 by decide)) ?_
  refine x_b 1 (S2 := (2, [some (.ref 0), some (.int x1), some (.ref 46), none], [.int 0, .ref 46], (mk B), B.kc, B.kn)) rfl ?_
  refine x_ldan rfl rfl rfl ((rg_pp (W := B)).lt (i := 0) (show 0 < 1 by decide)) ?_
  refine x_b 1 (S2 := (4, [some (.ref 0), some (.int x1), some (.ref 46), none], [.int x1, .ref 0, .int 0, .ref 46], (mk B), B.kc, B.kn)) rfl ?_
  obtain ⟨⟨r2, B3⟩, h1, hr⟩ := bd_some hr
  have hr9 := xq_some hr
  clear hr
  rcases hr9 with ⟨X4, rfl, hr⟩ | ⟨v5, rfl, hr⟩
  · rcases ite_some hr with ⟨h6, hr⟩ | ⟨h6, hr⟩
    · subst h6
      refine x_cH (m_90 h1) rfl rfl rfl rfl (am_recv_v ((rg_pp (W := B)).lt (i := 0) (show 0 < 1 by decide)) ((rg_pp (W := B)).at (i := 0) rfl) rfl) (by omega) rfl rfl ?_
      refine x_b 1 (S2 := (14, [some (.ref 0), some (.int x1), some (.ref 46), none], [.int 1], (mk B3), B3.kc, B3.kn)) rfl ?_
      cases hr
      rw [kr]
      exact x_ret rfl rfl am_ret_i
    rcases ite_some hr with ⟨h7, hr⟩ | ⟨h7, hr⟩
    · subst h7
      refine x_cH (m_90 h1) rfl rfl rfl rfl (am_recv_v ((rg_pp (W := B)).lt (i := 0) (show 0 < 1 by decide)) ((rg_pp (W := B)).at (i := 0) rfl) rfl) (by omega) rfl rfl ?_
      refine x_b 1 (S2 := (17, [some (.ref 0), some (.int x1), some (.ref 46), none], [.int 2], (mk B3), B3.kc, B3.kn)) rfl ?_
      cases hr
      rw [kr]
      exact x_ret rfl rfl am_ret_i
    cases hr
  refine x_cW (m_90 h1) rfl rfl rfl rfl (am_recv_v ((rg_pp (W := B)).lt (i := 0) (show 0 < 1 by decide)) ((rg_pp (W := B)).at (i := 0) rfl) rfl) (by omega) ?_
  refine x_b 1 (S2 := (8, [some (.ref 0), some (.int x1), some (.ref 46), none], [.long v5.toInt64, .int 0, .ref 46], (mk B3), B3.kc, B3.kn)) rfl ?_
  obtain ⟨i8, h9, hr⟩ := bd_some hr
  obtain ⟨o10, h11, hr⟩ := bd_some hr
  obtain ⟨B12, h13, hr⟩ := bd_some hr
  refine x_last (H := (mk B12)) rfl rfl ((rg_out (W := B3)).lt (i := 0) (show 0 < 1 by decide)) ((rg_out (W := B3)).at (i := 0) rfl) h9 (ws_out (i := 0) (Lr.s_ h11) h13 (by decide)) ?_
  refine x_kk (kk_out h13) ?_
  refine x_b 2 (S2 := (19, [some (.ref 0), some (.int x1), some (.ref 46), none], [.int 0], (mk B12), B12.kc, B12.kn)) rfl ?_
  cases hr
  rw [kr]
  exact x_ret rfl rfl am_ret_i
theorem m_272 {B : Wd} {x1 : Int32} {o : Int32 × Wd} (hr : F_272 B x1 = some o) : RnW 10 272 [.ref 0, .int x1, .ref 46] B (.inl (some (.int o.1))) o.2 :=
  x_methW (M := am_M272) rfl (show 3 ≤ 4 by decide) (f_272 (Nat.le_refl _) hr rfl)
/-- PebbleProofsLaw.weigh(LPebbleProofs;IIII[J)I -/
def F_273 (B : Wd) (x1 : Int32) (x2 : Int32) (x3 : Int32) (x4 : Int32) : Option (Int32 × Wd) :=
  (F_91 B x1 x2 x3 x4).bind fun (r2, B3) =>
  xq r2 (fun X4 =>
    if X4 = 2 then (
      some (1, B3)) else if X4 = 1 then (
      some (2, B3)) else none) fun v5 =>
  (ix 0 1).bind fun i8 =>
  (some (vp_updL B3.out i8 v5.toInt64)).bind fun o10 =>
  (some (B3.w_out o10)).bind fun B12 =>
  some (0, B12)
theorem f_273 {d : Nat} (hd : 9 ≤ d) {scr : ASc} {res : ARe} {B : Wd} {x1 : Int32} {x2 : Int32} {x3 : Int32} {x4 : Int32} {o : Int32 × Wd} (hr : F_273 B x1 x2 x3 x4 = some o) (kr : res = (.inl (some (.int o.1)), mk o.2, Wd.kc o.2, Wd.kn o.2)) : Ex d am_M273 scr (0, [some (.ref 0), some (.int x1), some (.int x2), some (.int x3), some (.int x4), some (.ref 46), none], [], (mk B), B.kc, B.kn) res := by
  delta F_273 at hr
  refine x_lda rfl rfl rfl ((rg_out (W := B)).lt (i := 0) (show 0 < 1 by decide)) ?_
  refine x_b 1 (S2 := (3, [some (.ref 0), some (.int x1), some (.int x2), some (.int x3), some (.int x4), some (.ref 46), none], [.int 0, .ref 46], (mk B), B.kc, B.kn)) rfl ?_
  refine x_ldan rfl rfl rfl ((rg_pp (W := B)).lt (i := 0) (show 0 < 1 by decide)) ?_
  refine x_b 4 (S2 := (9, [some (.ref 0), some (.int x1), some (.int x2), some (.int x3), some (.int x4), some (.ref 46), none], [.int x4, .int x3, .int x2, .int x1, .ref 0, .int 0, .ref 46], (mk B), B.kc, B.kn)) rfl ?_
  obtain ⟨⟨r2, B3⟩, h1, hr⟩ := bd_some hr
  have hr9 := xq_some hr
  clear hr
  rcases hr9 with ⟨X4, rfl, hr⟩ | ⟨v5, rfl, hr⟩
  · rcases ite_some hr with ⟨h6, hr⟩ | ⟨h6, hr⟩
    · subst h6
      refine x_cH (m_91 h1) rfl rfl rfl rfl (am_recv_v ((rg_pp (W := B)).lt (i := 0) (show 0 < 1 by decide)) ((rg_pp (W := B)).at (i := 0) rfl) rfl) (by omega) rfl rfl ?_
      refine x_b 1 (S2 := (20, [some (.ref 0), some (.int x1), some (.int x2), some (.int x3), some (.int x4), some (.ref 46), none], [.int 1], (mk B3), B3.kc, B3.kn)) rfl ?_
      cases hr
      rw [kr]
      exact x_ret rfl rfl am_ret_i
    rcases ite_some hr with ⟨h7, hr⟩ | ⟨h7, hr⟩
    · subst h7
      refine x_cH (m_91 h1) rfl rfl rfl rfl (am_recv_v ((rg_pp (W := B)).lt (i := 0) (show 0 < 1 by decide)) ((rg_pp (W := B)).at (i := 0) rfl) rfl) (by omega) rfl rfl ?_
      refine x_b 1 (S2 := (24, [some (.ref 0), some (.int x1), some (.int x2), some (.int x3), some (.int x4), some (.ref 46), none], [.int 2], (mk B3), B3.kc, B3.kn)) rfl ?_
      cases hr
      rw [kr]
      exact x_ret rfl rfl am_ret_i
    cases hr
  refine x_cW (m_91 h1) rfl rfl rfl rfl (am_recv_v ((rg_pp (W := B)).lt (i := 0) (show 0 < 1 by decide)) ((rg_pp (W := B)).at (i := 0) rfl) rfl) (by omega) ?_
  refine x_b 1 (S2 := (13, [some (.ref 0), some (.int x1), some (.int x2), some (.int x3), some (.int x4), some (.ref 46), none], [.long v5.toInt64, .int 0, .ref 46], (mk B3), B3.kc, B3.kn)) rfl ?_
  obtain ⟨i8, h9, hr⟩ := bd_some hr
  obtain ⟨o10, h11, hr⟩ := bd_some hr
  obtain ⟨B12, h13, hr⟩ := bd_some hr
  refine x_last (H := (mk B12)) rfl rfl ((rg_out (W := B3)).lt (i := 0) (show 0 < 1 by decide)) ((rg_out (W := B3)).at (i := 0) rfl) h9 (ws_out (i := 0) (Lr.s_ h11) h13 (by decide)) ?_
  refine x_kk (kk_out h13) ?_
  refine x_b 2 (S2 := (26, [some (.ref 0), some (.int x1), some (.int x2), some (.int x3), some (.int x4), some (.ref 46), none], [.int 0], (mk B12), B12.kc, B12.kn)) rfl ?_
  cases hr
  rw [kr]
  exact x_ret rfl rfl am_ret_i
theorem m_273 {B : Wd} {x1 : Int32} {x2 : Int32} {x3 : Int32} {x4 : Int32} {o : Int32 × Wd} (hr : F_273 B x1 x2 x3 x4 = some o) : RnW 10 273 [.ref 0, .int x1, .int x2, .int x3, .int x4, .ref 46] B (.inl (some (.int o.1))) o.2 :=
  x_methW (M := am_M273) rfl (show 6 ≤ 7 by decide) (f_273 (Nat.le_refl _) hr rfl)
/-- PebbleProofsLaw.dropStrategy(LPebbleProofs;I[J)I -/
def F_274 (B : Wd) (x1 : Int32) : Option (Int32 × Wd) :=
  (F_92 B x1).bind fun (r2, B3) =>
  xq r2 (fun X4 =>
    if X4 = 2 then (
      some (1, B3)) else none) fun v5 =>
  (ix 0 1).bind fun i7 =>
  (some (vp_updL B3.out i7 v5.toInt64)).bind fun o9 =>
  (some (B3.w_out o9)).bind fun B11 =>
  some (0, B11)
theorem f_274 {d : Nat} (hd : 9 ≤ d) {scr : ASc} {res : ARe} {B : Wd} {x1 : Int32} {o : Int32 × Wd} (hr : F_274 B x1 = some o) (kr : res = (.inl (some (.int o.1)), mk o.2, Wd.kc o.2, Wd.kn o.2)) : Ex d am_M274 scr (0, [some (.ref 0), some (.int x1), some (.ref 46), none], [], (mk B), B.kc, B.kn) res := by
  delta F_274 at hr
  refine x_ldan rfl rfl rfl ((rg_out (W := B)).lt (i := 0) (show 0 < 1 by decide)) ?_
  refine x_b 1 (S2 := (2, [some (.ref 0), some (.int x1), some (.ref 46), none], [.int 0, .ref 46], (mk B), B.kc, B.kn)) rfl ?_
  refine x_ldan rfl rfl rfl ((rg_pp (W := B)).lt (i := 0) (show 0 < 1 by decide)) ?_
  refine x_b 1 (S2 := (4, [some (.ref 0), some (.int x1), some (.ref 46), none], [.int x1, .ref 0, .int 0, .ref 46], (mk B), B.kc, B.kn)) rfl ?_
  obtain ⟨⟨r2, B3⟩, h1, hr⟩ := bd_some hr
  have hr9 := xq_some hr
  clear hr
  rcases hr9 with ⟨X4, rfl, hr⟩ | ⟨v5, rfl, hr⟩
  · rcases ite_some hr with ⟨h6, hr⟩ | ⟨h6, hr⟩
    · subst h6
      refine x_cH (m_92 h1) rfl rfl rfl rfl (am_recv_v ((rg_pp (W := B)).lt (i := 0) (show 0 < 1 by decide)) ((rg_pp (W := B)).at (i := 0) rfl) rfl) (by omega) rfl rfl ?_
      refine x_b 1 (S2 := (14, [some (.ref 0), some (.int x1), some (.ref 46), none], [.int 1], (mk B3), B3.kc, B3.kn)) rfl ?_
      cases hr
      rw [kr]
      exact x_ret rfl rfl am_ret_i
    cases hr
  refine x_cW (m_92 h1) rfl rfl rfl rfl (am_recv_v ((rg_pp (W := B)).lt (i := 0) (show 0 < 1 by decide)) ((rg_pp (W := B)).at (i := 0) rfl) rfl) (by omega) ?_
  refine x_b 1 (S2 := (8, [some (.ref 0), some (.int x1), some (.ref 46), none], [.long v5.toInt64, .int 0, .ref 46], (mk B3), B3.kc, B3.kn)) rfl ?_
  obtain ⟨i7, h8, hr⟩ := bd_some hr
  obtain ⟨o9, h10, hr⟩ := bd_some hr
  obtain ⟨B11, h12, hr⟩ := bd_some hr
  refine x_last (H := (mk B11)) rfl rfl ((rg_out (W := B3)).lt (i := 0) (show 0 < 1 by decide)) ((rg_out (W := B3)).at (i := 0) rfl) h8 (ws_out (i := 0) (Lr.s_ h10) h12 (by decide)) ?_
  refine x_kk (kk_out h12) ?_
  refine x_b 2 (S2 := (16, [some (.ref 0), some (.int x1), some (.ref 46), none], [.int 0], (mk B11), B11.kc, B11.kn)) rfl ?_
  cases hr
  rw [kr]
  exact x_ret rfl rfl am_ret_i
theorem m_274 {B : Wd} {x1 : Int32} {o : Int32 × Wd} (hr : F_274 B x1 = some o) : RnW 10 274 [.ref 0, .int x1, .ref 46] B (.inl (some (.int o.1))) o.2 :=
  x_methW (M := am_M274) rfl (show 3 ≤ 4 by decide) (f_274 (Nat.le_refl _) hr rfl)
/-- PebbleProofsLaw.undo(LPebbleProofs;[J)I -/
def F_275 (B : Wd) : Option (Int32 × Wd) :=
  (F_93 B).bind fun (r2, B3) =>
  xq r2 (fun X4 =>
    if X4 = 0 then (
      some (1, B3)) else none) fun v5 =>
  (ix 0 1).bind fun i7 =>
  (some (vp_updL B3.out i7 v5.toInt64)).bind fun o9 =>
  (some (B3.w_out o9)).bind fun B11 =>
  some (0, B11)
theorem f_275 {d : Nat} (hd : 8 ≤ d) {scr : ASc} {res : ARe} {B : Wd} {o : Int32 × Wd} (hr : F_275 B = some o) (kr : res = (.inl (some (.int o.1)), mk o.2, Wd.kc o.2, Wd.kn o.2)) : Ex d am_M275 scr (0, [some (.ref 0), some (.ref 46), none], [], (mk B), B.kc, B.kn) res := by
  delta F_275 at hr
  refine x_ldan rfl rfl rfl ((rg_out (W := B)).lt (i := 0) (show 0 < 1 by decide)) ?_
  refine x_b 1 (S2 := (2, [some (.ref 0), some (.ref 46), none], [.int 0, .ref 46], (mk B), B.kc, B.kn)) rfl ?_
  refine x_ldan rfl rfl rfl ((rg_pp (W := B)).lt (i := 0) (show 0 < 1 by decide)) ?_
  obtain ⟨⟨r2, B3⟩, h1, hr⟩ := bd_some hr
  have hr9 := xq_some hr
  clear hr
  rcases hr9 with ⟨X4, rfl, hr⟩ | ⟨v5, rfl, hr⟩
  · rcases ite_some hr with ⟨h6, hr⟩ | ⟨h6, hr⟩
    · subst h6
      refine x_cH (m_93 h1) rfl rfl rfl rfl (am_recv_v ((rg_pp (W := B)).lt (i := 0) (show 0 < 1 by decide)) ((rg_pp (W := B)).at (i := 0) rfl) rfl) (by omega) rfl rfl ?_
      refine x_b 1 (S2 := (13, [some (.ref 0), some (.ref 46), none], [.int 1], (mk B3), B3.kc, B3.kn)) rfl ?_
      cases hr
      rw [kr]
      exact x_ret rfl rfl am_ret_i
    cases hr
  refine x_cW (m_93 h1) rfl rfl rfl rfl (am_recv_v ((rg_pp (W := B)).lt (i := 0) (show 0 < 1 by decide)) ((rg_pp (W := B)).at (i := 0) rfl) rfl) (by omega) ?_
  refine x_b 1 (S2 := (7, [some (.ref 0), some (.ref 46), none], [.long v5.toInt64, .int 0, .ref 46], (mk B3), B3.kc, B3.kn)) rfl ?_
  obtain ⟨i7, h8, hr⟩ := bd_some hr
  obtain ⟨o9, h10, hr⟩ := bd_some hr
  obtain ⟨B11, h12, hr⟩ := bd_some hr
  refine x_last (H := (mk B11)) rfl rfl ((rg_out (W := B3)).lt (i := 0) (show 0 < 1 by decide)) ((rg_out (W := B3)).at (i := 0) rfl) h8 (ws_out (i := 0) (Lr.s_ h10) h12 (by decide)) ?_
  refine x_kk (kk_out h12) ?_
  refine x_b 2 (S2 := (15, [some (.ref 0), some (.ref 46), none], [.int 0], (mk B11), B11.kc, B11.kn)) rfl ?_
  cases hr
  rw [kr]
  exact x_ret rfl rfl am_ret_i
theorem m_275 {B : Wd} {o : Int32 × Wd} (hr : F_275 B = some o) : RnW 9 275 [.ref 0, .ref 46] B (.inl (some (.int o.1))) o.2 :=
  x_methW (M := am_M275) rfl (show 2 ≤ 3 by decide) (f_275 (Nat.le_refl _) hr rfl)
/-- PebbleProofsLaw.restore(LPebbleProofs;[J)I -/
def F_276 (B : Wd) : Option (Int32 × Wd) :=
  (F_96 B).bind fun (r2, B3) =>
  xq r2 (fun X4 =>
    if X4 = 0 then (
      some (1, B3)) else none) fun v5 =>
  (ix 0 1).bind fun i7 =>
  (some (vp_updL B3.out i7 v5.toInt64)).bind fun o9 =>
  (some (B3.w_out o9)).bind fun B11 =>
  some (0, B11)
theorem f_276 {d : Nat} (hd : 8 ≤ d) {scr : ASc} {res : ARe} {B : Wd} {o : Int32 × Wd} (hr : F_276 B = some o) (kr : res = (.inl (some (.int o.1)), mk o.2, Wd.kc o.2, Wd.kn o.2)) : Ex d am_M276 scr (0, [some (.ref 0), some (.ref 46), none], [], (mk B), B.kc, B.kn) res := by
  delta F_276 at hr
  refine x_ldan rfl rfl rfl ((rg_out (W := B)).lt (i := 0) (show 0 < 1 by decide)) ?_
  refine x_b 1 (S2 := (2, [some (.ref 0), some (.ref 46), none], [.int 0, .ref 46], (mk B), B.kc, B.kn)) rfl ?_
  refine x_ldan rfl rfl rfl ((rg_pp (W := B)).lt (i := 0) (show 0 < 1 by decide)) ?_
  obtain ⟨⟨r2, B3⟩, h1, hr⟩ := bd_some hr
  have hr9 := xq_some hr
  clear hr
  rcases hr9 with ⟨X4, rfl, hr⟩ | ⟨v5, rfl, hr⟩
  · rcases ite_some hr with ⟨h6, hr⟩ | ⟨h6, hr⟩
    · subst h6
      refine x_cH (m_96 h1) rfl rfl rfl rfl (am_recv_v ((rg_pp (W := B)).lt (i := 0) (show 0 < 1 by decide)) ((rg_pp (W := B)).at (i := 0) rfl) rfl) (by omega) rfl rfl ?_
      refine x_b 1 (S2 := (13, [some (.ref 0), some (.ref 46), none], [.int 1], (mk B3), B3.kc, B3.kn)) rfl ?_
      cases hr
      rw [kr]
      exact x_ret rfl rfl am_ret_i
    cases hr
  refine x_cW (m_96 h1) rfl rfl rfl rfl (am_recv_v ((rg_pp (W := B)).lt (i := 0) (show 0 < 1 by decide)) ((rg_pp (W := B)).at (i := 0) rfl) rfl) (by omega) ?_
  refine x_b 1 (S2 := (7, [some (.ref 0), some (.ref 46), none], [.long v5.toInt64, .int 0, .ref 46], (mk B3), B3.kc, B3.kn)) rfl ?_
  obtain ⟨i7, h8, hr⟩ := bd_some hr
  obtain ⟨o9, h10, hr⟩ := bd_some hr
  obtain ⟨B11, h12, hr⟩ := bd_some hr
  refine x_last (H := (mk B11)) rfl rfl ((rg_out (W := B3)).lt (i := 0) (show 0 < 1 by decide)) ((rg_out (W := B3)).at (i := 0) rfl) h8 (ws_out (i := 0) (Lr.s_ h10) h12 (by decide)) ?_
  refine x_kk (kk_out h12) ?_
  refine x_b 2 (S2 := (15, [some (.ref 0), some (.ref 46), none], [.int 0], (mk B11), B11.kc, B11.kn)) rfl ?_
  cases hr
  rw [kr]
  exact x_ret rfl rfl am_ret_i
theorem m_276 {B : Wd} {o : Int32 × Wd} (hr : F_276 B = some o) : RnW 9 276 [.ref 0, .ref 46] B (.inl (some (.int o.1))) o.2 :=
  x_methW (M := am_M276) rfl (show 2 ≤ 3 by decide) (f_276 (Nat.le_refl _) hr rfl)
/-- PebbleProofsLaw.count(LPebbleProofs;I[J)I -/
def F_277 (B : Wd) (x1 : Int32) : Option (Int32 × Wd) :=
  (F_98 B x1).bind fun (r2, B3) =>
  xq r2 (fun X4 =>
    if X4 = 1 then (
      some (1, B3)) else none) fun v5 =>
  (ix 0 1).bind fun i7 =>
  (some (vp_updL B3.out i7 v5.toInt64)).bind fun o9 =>
  (some (B3.w_out o9)).bind fun B11 =>
  some (0, B11)
theorem f_277 {d : Nat} (hd : 8 ≤ d) {scr : ASc} {res : ARe} {B : Wd} {x1 : Int32} {o : Int32 × Wd} (hr : F_277 B x1 = some o) (kr : res = (.inl (some (.int o.1)), mk o.2, Wd.kc o.2, Wd.kn o.2)) : Ex d am_M277 scr (0, [some (.ref 0), some (.int x1), some (.ref 46), none], [], (mk B), B.kc, B.kn) res := by
  delta F_277 at hr
  refine x_ldan rfl rfl rfl ((rg_out (W := B)).lt (i := 0) (show 0 < 1 by decide)) ?_
  refine x_b 1 (S2 := (2, [some (.ref 0), some (.int x1), some (.ref 46), none], [.int 0, .ref 46], (mk B), B.kc, B.kn)) rfl ?_
  refine x_ldan rfl rfl rfl ((rg_pp (W := B)).lt (i := 0) (show 0 < 1 by decide)) ?_
  refine x_b 1 (S2 := (4, [some (.ref 0), some (.int x1), some (.ref 46), none], [.int x1, .ref 0, .int 0, .ref 46], (mk B), B.kc, B.kn)) rfl ?_
  obtain ⟨⟨r2, B3⟩, h1, hr⟩ := bd_some hr
  have hr9 := xq_some hr
  clear hr
  rcases hr9 with ⟨X4, rfl, hr⟩ | ⟨v5, rfl, hr⟩
  · rcases ite_some hr with ⟨h6, hr⟩ | ⟨h6, hr⟩
    · subst h6
      refine x_cH (m_98 h1) rfl rfl rfl rfl (am_recv_v ((rg_pp (W := B)).lt (i := 0) (show 0 < 1 by decide)) ((rg_pp (W := B)).at (i := 0) rfl) rfl) (by omega) rfl rfl ?_
      refine x_b 1 (S2 := (14, [some (.ref 0), some (.int x1), some (.ref 46), none], [.int 1], (mk B3), B3.kc, B3.kn)) rfl ?_
      cases hr
      rw [kr]
      exact x_ret rfl rfl am_ret_i
    cases hr
  refine x_cW (m_98 h1) rfl rfl rfl rfl (am_recv_v ((rg_pp (W := B)).lt (i := 0) (show 0 < 1 by decide)) ((rg_pp (W := B)).at (i := 0) rfl) rfl) (by omega) ?_
  refine x_b 1 (S2 := (8, [some (.ref 0), some (.int x1), some (.ref 46), none], [.long v5.toInt64, .int 0, .ref 46], (mk B3), B3.kc, B3.kn)) rfl ?_
  obtain ⟨i7, h8, hr⟩ := bd_some hr
  obtain ⟨o9, h10, hr⟩ := bd_some hr
  obtain ⟨B11, h12, hr⟩ := bd_some hr
  refine x_last (H := (mk B11)) rfl rfl ((rg_out (W := B3)).lt (i := 0) (show 0 < 1 by decide)) ((rg_out (W := B3)).at (i := 0) rfl) h8 (ws_out (i := 0) (Lr.s_ h10) h12 (by decide)) ?_
  refine x_kk (kk_out h12) ?_
  refine x_b 2 (S2 := (16, [some (.ref 0), some (.int x1), some (.ref 46), none], [.int 0], (mk B11), B11.kc, B11.kn)) rfl ?_
  cases hr
  rw [kr]
  exact x_ret rfl rfl am_ret_i
theorem m_277 {B : Wd} {x1 : Int32} {o : Int32 × Wd} (hr : F_277 B x1 = some o) : RnW 9 277 [.ref 0, .int x1, .ref 46] B (.inl (some (.int o.1))) o.2 :=
  x_methW (M := am_M277) rfl (show 3 ≤ 4 by decide) (f_277 (Nat.le_refl _) hr rfl)
def J_278_0_j16 (B : Wd) (t0 : Int64) (t1 : Int32) : Option (Int32 × Wd) :=
  (ix t1 1).bind fun i8 =>
  (some (vp_updL B.out i8 t0)).bind fun o10 =>
  (some (B.w_out o10)).bind fun B12 =>
  some (0, B12)
theorem j_278_0_j16 {d : Nat} (hd : 9 ≤ d) {scr : ASc} {res : ARe} {B : Wd} {t0 : Int64} {t1 : Int32} {o : Int32 × Wd} (hr : J_278_0_j16 B t0 t1 = some o) (kr : res = (.inl (some (.int o.1)), mk o.2, Wd.kc o.2, Wd.kn o.2)) : Ex d am_M278 scr (16, [none, none, none, none, none], [.long t0, .int t1, .ref 46], (mk B), B.kc, B.kn) res := by
  delta J_278_0_j16 at hr
  obtain ⟨i8, h9, hr⟩ := bd_some hr
  obtain ⟨o10, h11, hr⟩ := bd_some hr
  obtain ⟨B12, h13, hr⟩ := bd_some hr
  refine x_last (H := (mk B12)) rfl rfl ((rg_out (W := B)).lt (i := 0) (show 0 < 1 by decide)) ((rg_out (W := B)).at (i := 0) rfl) h9 (ws_out (i := 0) (Lr.s_ h11) h13 (by decide)) ?_
  refine x_kk (kk_out h13) ?_
  refine x_b 2 (S2 := (25, [none, none, none, none, none], [.int 0], (mk B12), B12.kc, B12.kn)) rfl ?_
  cases hr
  rw [kr]
  exact x_ret rfl rfl am_ret_i
/-- PebbleProofsLaw.isEdge(LPebbleProofs;II[J)I -/
def F_278 (B : Wd) (x1 : Int32) (x2 : Int32) : Option (Int32 × Wd) :=
  (F_99 B x1 x2).bind fun (r2, B3) =>
  xq r2 (fun X4 =>
    if X4 = 2 then (
      some (1, B3)) else none) fun v5 =>
  if v5 = 0 then
    J_278_0_j16 B3 0 0
  else
    J_278_0_j16 B3 1 0
theorem f_278 {d : Nat} (hd : 9 ≤ d) {scr : ASc} {res : ARe} {B : Wd} {x1 : Int32} {x2 : Int32} {o : Int32 × Wd} (hr : F_278 B x1 x2 = some o) (kr : res = (.inl (some (.int o.1)), mk o.2, Wd.kc o.2, Wd.kn o.2)) : Ex d am_M278 scr (0, [some (.ref 0), some (.int x1), some (.int x2), some (.ref 46), none], [], (mk B), B.kc, B.kn) res := by
  delta F_278 at hr
  refine x_ldan rfl rfl rfl ((rg_out (W := B)).lt (i := 0) (show 0 < 1 by decide)) ?_
  refine x_b 1 (S2 := (2, [some (.ref 0), some (.int x1), some (.int x2), some (.ref 46), none], [.int 0, .ref 46], (mk B), B.kc, B.kn)) rfl ?_
  refine x_ldan rfl rfl rfl ((rg_pp (W := B)).lt (i := 0) (show 0 < 1 by decide)) ?_
  refine x_b 2 (S2 := (5, [some (.ref 0), some (.int x1), some (.int x2), some (.ref 46), none], [.int x2, .int x1, .ref 0, .int 0, .ref 46], (mk B), B.kc, B.kn)) rfl ?_
  obtain ⟨⟨r2, B3⟩, h1, hr⟩ := bd_some hr
  have hr9 := xq_some hr
  clear hr
  rcases hr9 with ⟨X4, rfl, hr⟩ | ⟨v5, rfl, hr⟩
  · rcases ite_some hr with ⟨h6, hr⟩ | ⟨h6, hr⟩
    · subst h6
      refine x_cH (m_99 h1) rfl rfl rfl rfl (am_recv_v ((rg_pp (W := B)).lt (i := 0) (show 0 < 1 by decide)) ((rg_pp (W := B)).at (i := 0) rfl) rfl) (by omega) rfl rfl ?_
      refine x_b 1 (S2 := (23, [some (.ref 0), some (.int x1), some (.int x2), some (.ref 46), none], [.int 1], (mk B3), B3.kc, B3.kn)) rfl ?_
      cases hr
      rw [kr]
      exact x_ret rfl rfl am_ret_i
    cases hr
  refine x_cW (m_99 h1) rfl rfl rfl rfl (am_recv_v ((rg_pp (W := B)).lt (i := 0) (show 0 < 1 by decide)) ((rg_pp (W := B)).at (i := 0) rfl) rfl) (by omega) ?_
  rcases ite_some hr with ⟨h7, hr⟩ | ⟨h7, hr⟩
  · refine x_zt rfl rfl (decide_eq_true h7) ?_
    refine x_b 1 (S2 := (16, [some (.ref 0), some (.int x1), some (.int x2), some (.ref 46), none], [.long 0, .int 0, .ref 46], (mk B3), B3.kc, B3.kn)) rfl ?_
    refine x_fg (Lq.n (Lq.n (Lq.n (Lq.n (Lq.s Lq.nil))))) ?_
    exact j_278_0_j16 hd hr kr
  · refine x_zf rfl rfl (decide_eq_false h7) ?_
    refine x_b 2 (S2 := (16, [some (.ref 0), some (.int x1), some (.int x2), some (.ref 46), none], [.long 1, .int 0, .ref 46], (mk B3), B3.kc, B3.kn)) rfl ?_
    refine x_fg (Lq.n (Lq.n (Lq.n (Lq.n (Lq.s Lq.nil))))) ?_
    exact j_278_0_j16 hd hr kr
theorem m_278 {B : Wd} {x1 : Int32} {x2 : Int32} {o : Int32 × Wd} (hr : F_278 B x1 x2 = some o) : RnW 10 278 [.ref 0, .int x1, .int x2, .ref 46] B (.inl (some (.int o.1))) o.2 :=
  x_methW (M := am_M278) rfl (show 4 ≤ 5 by decide) (f_278 (Nat.le_refl _) hr rfl)
/-- PebbleProofsLaw.distance(LPebbleProofs;II[J)I -/
def F_279 (B : Wd) (x1 : Int32) (x2 : Int32) : Option (Int32 × Wd) :=
  (F_100 B x1 x2).bind fun (r2, B3) =>
  xq r2 (fun X4 =>
    if X4 = 2 then (
      some (1, B3)) else none) fun v5 =>
  (ix 0 1).bind fun i7 =>
  (some (vp_updL B3.out i7 v5.toInt64)).bind fun o9 =>
  (some (B3.w_out o9)).bind fun B11 =>
  some (0, B11)
theorem f_279 {d : Nat} (hd : 9 ≤ d) {scr : ASc} {res : ARe} {B : Wd} {x1 : Int32} {x2 : Int32} {o : Int32 × Wd} (hr : F_279 B x1 x2 = some o) (kr : res = (.inl (some (.int o.1)), mk o.2, Wd.kc o.2, Wd.kn o.2)) : Ex d am_M279 scr (0, [some (.ref 0), some (.int x1), some (.int x2), some (.ref 46), none], [], (mk B), B.kc, B.kn) res := by
  delta F_279 at hr
  refine x_ldan rfl rfl rfl ((rg_out (W := B)).lt (i := 0) (show 0 < 1 by decide)) ?_
  refine x_b 1 (S2 := (2, [some (.ref 0), some (.int x1), some (.int x2), some (.ref 46), none], [.int 0, .ref 46], (mk B), B.kc, B.kn)) rfl ?_
  refine x_ldan rfl rfl rfl ((rg_pp (W := B)).lt (i := 0) (show 0 < 1 by decide)) ?_
  refine x_b 2 (S2 := (5, [some (.ref 0), some (.int x1), some (.int x2), some (.ref 46), none], [.int x2, .int x1, .ref 0, .int 0, .ref 46], (mk B), B.kc, B.kn)) rfl ?_
  obtain ⟨⟨r2, B3⟩, h1, hr⟩ := bd_some hr
  have hr9 := xq_some hr
  clear hr
  rcases hr9 with ⟨X4, rfl, hr⟩ | ⟨v5, rfl, hr⟩
  · rcases ite_some hr with ⟨h6, hr⟩ | ⟨h6, hr⟩
    · subst h6
      refine x_cH (m_100 h1) rfl rfl rfl rfl (am_recv_v ((rg_pp (W := B)).lt (i := 0) (show 0 < 1 by decide)) ((rg_pp (W := B)).at (i := 0) rfl) rfl) (by omega) rfl rfl ?_
      refine x_b 1 (S2 := (16, [some (.ref 0), some (.int x1), some (.int x2), some (.ref 46), none], [.int 1], (mk B3), B3.kc, B3.kn)) rfl ?_
      cases hr
      rw [kr]
      exact x_ret rfl rfl am_ret_i
    cases hr
  refine x_cW (m_100 h1) rfl rfl rfl rfl (am_recv_v ((rg_pp (W := B)).lt (i := 0) (show 0 < 1 by decide)) ((rg_pp (W := B)).at (i := 0) rfl) rfl) (by omega) ?_
  refine x_b 1 (S2 := (9, [some (.ref 0), some (.int x1), some (.int x2), some (.ref 46), none], [.long v5.toInt64, .int 0, .ref 46], (mk B3), B3.kc, B3.kn)) rfl ?_
  obtain ⟨i7, h8, hr⟩ := bd_some hr
  obtain ⟨o9, h10, hr⟩ := bd_some hr
  obtain ⟨B11, h12, hr⟩ := bd_some hr
  refine x_last (H := (mk B11)) rfl rfl ((rg_out (W := B3)).lt (i := 0) (show 0 < 1 by decide)) ((rg_out (W := B3)).at (i := 0) rfl) h8 (ws_out (i := 0) (Lr.s_ h10) h12 (by decide)) ?_
  refine x_kk (kk_out h12) ?_
  refine x_b 2 (S2 := (18, [some (.ref 0), some (.int x1), some (.int x2), some (.ref 46), none], [.int 0], (mk B11), B11.kc, B11.kn)) rfl ?_
  cases hr
  rw [kr]
  exact x_ret rfl rfl am_ret_i
theorem m_279 {B : Wd} {x1 : Int32} {x2 : Int32} {o : Int32 × Wd} (hr : F_279 B x1 x2 = some o) : RnW 10 279 [.ref 0, .int x1, .int x2, .ref 46] B (.inl (some (.int o.1))) o.2 :=
  x_methW (M := am_M279) rfl (show 4 ≤ 5 by decide) (f_279 (Nat.le_refl _) hr rfl)
/-- PebbleProofsLaw.farthest(LPebbleProofs;I[J)I -/
def F_280 (B : Wd) (x1 : Int32) : Option (Int32 × Wd) :=
  (F_101 B x1).bind fun (r2, B3) =>
  xq r2 (fun X4 =>
    if X4 = 2 then (
      some (1, B3)) else none) fun v5 =>
  (ix 0 1).bind fun i7 =>
  (some (vp_updL B3.out i7 v5.toInt64)).bind fun o9 =>
  (some (B3.w_out o9)).bind fun B11 =>
  some (0, B11)
theorem f_280 {d : Nat} (hd : 9 ≤ d) {scr : ASc} {res : ARe} {B : Wd} {x1 : Int32} {o : Int32 × Wd} (hr : F_280 B x1 = some o) (kr : res = (.inl (some (.int o.1)), mk o.2, Wd.kc o.2, Wd.kn o.2)) : Ex d am_M280 scr (0, [some (.ref 0), some (.int x1), some (.ref 46), none], [], (mk B), B.kc, B.kn) res := by
  delta F_280 at hr
  refine x_ldan rfl rfl rfl ((rg_out (W := B)).lt (i := 0) (show 0 < 1 by decide)) ?_
  refine x_b 1 (S2 := (2, [some (.ref 0), some (.int x1), some (.ref 46), none], [.int 0, .ref 46], (mk B), B.kc, B.kn)) rfl ?_
  refine x_ldan rfl rfl rfl ((rg_pp (W := B)).lt (i := 0) (show 0 < 1 by decide)) ?_
  refine x_b 1 (S2 := (4, [some (.ref 0), some (.int x1), some (.ref 46), none], [.int x1, .ref 0, .int 0, .ref 46], (mk B), B.kc, B.kn)) rfl ?_
  obtain ⟨⟨r2, B3⟩, h1, hr⟩ := bd_some hr
  have hr9 := xq_some hr
  clear hr
  rcases hr9 with ⟨X4, rfl, hr⟩ | ⟨v5, rfl, hr⟩
  · rcases ite_some hr with ⟨h6, hr⟩ | ⟨h6, hr⟩
    · subst h6
      refine x_cH (m_101 h1) rfl rfl rfl rfl (am_recv_v ((rg_pp (W := B)).lt (i := 0) (show 0 < 1 by decide)) ((rg_pp (W := B)).at (i := 0) rfl) rfl) (by omega) rfl rfl ?_
      refine x_b 1 (S2 := (14, [some (.ref 0), some (.int x1), some (.ref 46), none], [.int 1], (mk B3), B3.kc, B3.kn)) rfl ?_
      cases hr
      rw [kr]
      exact x_ret rfl rfl am_ret_i
    cases hr
  refine x_cW (m_101 h1) rfl rfl rfl rfl (am_recv_v ((rg_pp (W := B)).lt (i := 0) (show 0 < 1 by decide)) ((rg_pp (W := B)).at (i := 0) rfl) rfl) (by omega) ?_
  refine x_b 1 (S2 := (8, [some (.ref 0), some (.int x1), some (.ref 46), none], [.long v5.toInt64, .int 0, .ref 46], (mk B3), B3.kc, B3.kn)) rfl ?_
  obtain ⟨i7, h8, hr⟩ := bd_some hr
  obtain ⟨o9, h10, hr⟩ := bd_some hr
  obtain ⟨B11, h12, hr⟩ := bd_some hr
  refine x_last (H := (mk B11)) rfl rfl ((rg_out (W := B3)).lt (i := 0) (show 0 < 1 by decide)) ((rg_out (W := B3)).at (i := 0) rfl) h8 (ws_out (i := 0) (Lr.s_ h10) h12 (by decide)) ?_
  refine x_kk (kk_out h12) ?_
  refine x_b 2 (S2 := (16, [some (.ref 0), some (.int x1), some (.ref 46), none], [.int 0], (mk B11), B11.kc, B11.kn)) rfl ?_
  cases hr
  rw [kr]
  exact x_ret rfl rfl am_ret_i
theorem m_280 {B : Wd} {x1 : Int32} {o : Int32 × Wd} (hr : F_280 B x1 = some o) : RnW 10 280 [.ref 0, .int x1, .ref 46] B (.inl (some (.int o.1))) o.2 :=
  x_methW (M := am_M280) rfl (show 3 ≤ 4 by decide) (f_280 (Nat.le_refl _) hr rfl)
/-- PebbleProofsLaw.pebbles(LPebbleProofs;I[J)I -/
def F_281 (B : Wd) (x1 : Int32) : Option (Int32 × Wd) :=
  (F_102 B x1).bind fun (r2, B3) =>
  xq r2 (fun X4 =>
    if X4 = 2 then (
      some (1, B3)) else none) fun v5 =>
  (ix 0 1).bind fun i7 =>
  (some (vp_updL B3.out i7 v5.toInt64)).bind fun o9 =>
  (some (B3.w_out o9)).bind fun B11 =>
  some (0, B11)
theorem f_281 {d : Nat} (hd : 9 ≤ d) {scr : ASc} {res : ARe} {B : Wd} {x1 : Int32} {o : Int32 × Wd} (hr : F_281 B x1 = some o) (kr : res = (.inl (some (.int o.1)), mk o.2, Wd.kc o.2, Wd.kn o.2)) : Ex d am_M281 scr (0, [some (.ref 0), some (.int x1), some (.ref 46), none], [], (mk B), B.kc, B.kn) res := by
  delta F_281 at hr
  refine x_ldan rfl rfl rfl ((rg_out (W := B)).lt (i := 0) (show 0 < 1 by decide)) ?_
  refine x_b 1 (S2 := (2, [some (.ref 0), some (.int x1), some (.ref 46), none], [.int 0, .ref 46], (mk B), B.kc, B.kn)) rfl ?_
  refine x_ldan rfl rfl rfl ((rg_pp (W := B)).lt (i := 0) (show 0 < 1 by decide)) ?_
  refine x_b 1 (S2 := (4, [some (.ref 0), some (.int x1), some (.ref 46), none], [.int x1, .ref 0, .int 0, .ref 46], (mk B), B.kc, B.kn)) rfl ?_
  obtain ⟨⟨r2, B3⟩, h1, hr⟩ := bd_some hr
  have hr9 := xq_some hr
  clear hr
  rcases hr9 with ⟨X4, rfl, hr⟩ | ⟨v5, rfl, hr⟩
  · rcases ite_some hr with ⟨h6, hr⟩ | ⟨h6, hr⟩
    · subst h6
      refine x_cH (m_102 h1) rfl rfl rfl rfl (am_recv_v ((rg_pp (W := B)).lt (i := 0) (show 0 < 1 by decide)) ((rg_pp (W := B)).at (i := 0) rfl) rfl) (by omega) rfl rfl ?_
      refine x_b 1 (S2 := (14, [some (.ref 0), some (.int x1), some (.ref 46), none], [.int 1], (mk B3), B3.kc, B3.kn)) rfl ?_
      cases hr
      rw [kr]
      exact x_ret rfl rfl am_ret_i
    cases hr
  refine x_cW (m_102 h1) rfl rfl rfl rfl (am_recv_v ((rg_pp (W := B)).lt (i := 0) (show 0 < 1 by decide)) ((rg_pp (W := B)).at (i := 0) rfl) rfl) (by omega) ?_
  refine x_b 1 (S2 := (8, [some (.ref 0), some (.int x1), some (.ref 46), none], [.long v5.toInt64, .int 0, .ref 46], (mk B3), B3.kc, B3.kn)) rfl ?_
  obtain ⟨i7, h8, hr⟩ := bd_some hr
  obtain ⟨o9, h10, hr⟩ := bd_some hr
  obtain ⟨B11, h12, hr⟩ := bd_some hr
  refine x_last (H := (mk B11)) rfl rfl ((rg_out (W := B3)).lt (i := 0) (show 0 < 1 by decide)) ((rg_out (W := B3)).at (i := 0) rfl) h8 (ws_out (i := 0) (Lr.s_ h10) h12 (by decide)) ?_
  refine x_kk (kk_out h12) ?_
  refine x_b 2 (S2 := (16, [some (.ref 0), some (.int x1), some (.ref 46), none], [.int 0], (mk B11), B11.kc, B11.kn)) rfl ?_
  cases hr
  rw [kr]
  exact x_ret rfl rfl am_ret_i
theorem m_281 {B : Wd} {x1 : Int32} {o : Int32 × Wd} (hr : F_281 B x1 = some o) : RnW 10 281 [.ref 0, .int x1, .ref 46] B (.inl (some (.int o.1))) o.2 :=
  x_methW (M := am_M281) rfl (show 3 ≤ 4 by decide) (f_281 (Nat.le_refl _) hr rfl)
/-- PebbleProofsLaw.moves(LPebbleProofs;I[J)I -/
def F_282 (B : Wd) (x1 : Int32) : Option (Int32 × Wd) :=
  (F_103 B x1).bind fun (r2, B3) =>
  xq r2 (fun X4 =>
    if X4 = 2 then (
      some (1, B3)) else none) fun v5 =>
  (ix 0 1).bind fun i7 =>
  (some (vp_updL B3.out i7 v5.toInt64)).bind fun o9 =>
  (some (B3.w_out o9)).bind fun B11 =>
  some (0, B11)
theorem f_282 {d : Nat} (hd : 9 ≤ d) {scr : ASc} {res : ARe} {B : Wd} {x1 : Int32} {o : Int32 × Wd} (hr : F_282 B x1 = some o) (kr : res = (.inl (some (.int o.1)), mk o.2, Wd.kc o.2, Wd.kn o.2)) : Ex d am_M282 scr (0, [some (.ref 0), some (.int x1), some (.ref 46), none], [], (mk B), B.kc, B.kn) res := by
  delta F_282 at hr
  refine x_ldan rfl rfl rfl ((rg_out (W := B)).lt (i := 0) (show 0 < 1 by decide)) ?_
  refine x_b 1 (S2 := (2, [some (.ref 0), some (.int x1), some (.ref 46), none], [.int 0, .ref 46], (mk B), B.kc, B.kn)) rfl ?_
  refine x_ldan rfl rfl rfl ((rg_pp (W := B)).lt (i := 0) (show 0 < 1 by decide)) ?_
  refine x_b 1 (S2 := (4, [some (.ref 0), some (.int x1), some (.ref 46), none], [.int x1, .ref 0, .int 0, .ref 46], (mk B), B.kc, B.kn)) rfl ?_
  obtain ⟨⟨r2, B3⟩, h1, hr⟩ := bd_some hr
  have hr9 := xq_some hr
  clear hr
  rcases hr9 with ⟨X4, rfl, hr⟩ | ⟨v5, rfl, hr⟩
  · rcases ite_some hr with ⟨h6, hr⟩ | ⟨h6, hr⟩
    · subst h6
      refine x_cH (m_103 h1) rfl rfl rfl rfl (am_recv_v ((rg_pp (W := B)).lt (i := 0) (show 0 < 1 by decide)) ((rg_pp (W := B)).at (i := 0) rfl) rfl) (by omega) rfl rfl ?_
      refine x_b 1 (S2 := (14, [some (.ref 0), some (.int x1), some (.ref 46), none], [.int 1], (mk B3), B3.kc, B3.kn)) rfl ?_
      cases hr
      rw [kr]
      exact x_ret rfl rfl am_ret_i
    cases hr
  refine x_cW (m_103 h1) rfl rfl rfl rfl (am_recv_v ((rg_pp (W := B)).lt (i := 0) (show 0 < 1 by decide)) ((rg_pp (W := B)).at (i := 0) rfl) rfl) (by omega) ?_
  refine x_b 1 (S2 := (8, [some (.ref 0), some (.int x1), some (.ref 46), none], [.long v5.toInt64, .int 0, .ref 46], (mk B3), B3.kc, B3.kn)) rfl ?_
  obtain ⟨i7, h8, hr⟩ := bd_some hr
  obtain ⟨o9, h10, hr⟩ := bd_some hr
  obtain ⟨B11, h12, hr⟩ := bd_some hr
  refine x_last (H := (mk B11)) rfl rfl ((rg_out (W := B3)).lt (i := 0) (show 0 < 1 by decide)) ((rg_out (W := B3)).at (i := 0) rfl) h8 (ws_out (i := 0) (Lr.s_ h10) h12 (by decide)) ?_
  refine x_kk (kk_out h12) ?_
  refine x_b 2 (S2 := (16, [some (.ref 0), some (.int x1), some (.ref 46), none], [.int 0], (mk B11), B11.kc, B11.kn)) rfl ?_
  cases hr
  rw [kr]
  exact x_ret rfl rfl am_ret_i
theorem m_282 {B : Wd} {x1 : Int32} {o : Int32 × Wd} (hr : F_282 B x1 = some o) : RnW 10 282 [.ref 0, .int x1, .ref 46] B (.inl (some (.int o.1))) o.2 :=
  x_methW (M := am_M282) rfl (show 3 ≤ 4 by decide) (f_282 (Nat.le_refl _) hr rfl)
def J_283_0_j15 (B : Wd) (t0 : Int64) (t1 : Int32) : Option (Int32 × Wd) :=
  (ix t1 1).bind fun i8 =>
  (some (vp_updL B.out i8 t0)).bind fun o10 =>
  (some (B.w_out o10)).bind fun B12 =>
  some (0, B12)
theorem j_283_0_j15 {d : Nat} (hd : 9 ≤ d) {scr : ASc} {res : ARe} {B : Wd} {t0 : Int64} {t1 : Int32} {o : Int32 × Wd} (hr : J_283_0_j15 B t0 t1 = some o) (kr : res = (.inl (some (.int o.1)), mk o.2, Wd.kc o.2, Wd.kn o.2)) : Ex d am_M283 scr (15, [none, none, none, none], [.long t0, .int t1, .ref 46], (mk B), B.kc, B.kn) res := by
  delta J_283_0_j15 at hr
  obtain ⟨i8, h9, hr⟩ := bd_some hr
  obtain ⟨o10, h11, hr⟩ := bd_some hr
  obtain ⟨B12, h13, hr⟩ := bd_some hr
  refine x_last (H := (mk B12)) rfl rfl ((rg_out (W := B)).lt (i := 0) (show 0 < 1 by decide)) ((rg_out (W := B)).at (i := 0) rfl) h9 (ws_out (i := 0) (Lr.s_ h11) h13 (by decide)) ?_
  refine x_kk (kk_out h13) ?_
  refine x_b 2 (S2 := (23, [none, none, none, none], [.int 0], (mk B12), B12.kc, B12.kn)) rfl ?_
  cases hr
  rw [kr]
  exact x_ret rfl rfl am_ret_i
/-- PebbleProofsLaw.isReachable(LPebbleProofs;I[J)I -/
def F_283 (B : Wd) (x1 : Int32) : Option (Int32 × Wd) :=
  (F_104 B x1).bind fun (r2, B3) =>
  xq r2 (fun X4 =>
    if X4 = 2 then (
      some (1, B3)) else none) fun v5 =>
  if v5 = 0 then
    J_283_0_j15 B3 0 0
  else
    J_283_0_j15 B3 1 0
theorem f_283 {d : Nat} (hd : 9 ≤ d) {scr : ASc} {res : ARe} {B : Wd} {x1 : Int32} {o : Int32 × Wd} (hr : F_283 B x1 = some o) (kr : res = (.inl (some (.int o.1)), mk o.2, Wd.kc o.2, Wd.kn o.2)) : Ex d am_M283 scr (0, [some (.ref 0), some (.int x1), some (.ref 46), none], [], (mk B), B.kc, B.kn) res := by
  delta F_283 at hr
  refine x_ldan rfl rfl rfl ((rg_out (W := B)).lt (i := 0) (show 0 < 1 by decide)) ?_
  refine x_b 1 (S2 := (2, [some (.ref 0), some (.int x1), some (.ref 46), none], [.int 0, .ref 46], (mk B), B.kc, B.kn)) rfl ?_
  refine x_ldan rfl rfl rfl ((rg_pp (W := B)).lt (i := 0) (show 0 < 1 by decide)) ?_
  refine x_b 1 (S2 := (4, [some (.ref 0), some (.int x1), some (.ref 46), none], [.int x1, .ref 0, .int 0, .ref 46], (mk B), B.kc, B.kn)) rfl ?_
  obtain ⟨⟨r2, B3⟩, h1, hr⟩ := bd_some hr
  have hr9 := xq_some hr
  clear hr
  rcases hr9 with ⟨X4, rfl, hr⟩ | ⟨v5, rfl, hr⟩
  · rcases ite_some hr with ⟨h6, hr⟩ | ⟨h6, hr⟩
    · subst h6
      refine x_cH (m_104 h1) rfl rfl rfl rfl (am_recv_v ((rg_pp (W := B)).lt (i := 0) (show 0 < 1 by decide)) ((rg_pp (W := B)).at (i := 0) rfl) rfl) (by omega) rfl rfl ?_
      refine x_b 1 (S2 := (21, [some (.ref 0), some (.int x1), some (.ref 46), none], [.int 1], (mk B3), B3.kc, B3.kn)) rfl ?_
      cases hr
      rw [kr]
      exact x_ret rfl rfl am_ret_i
    cases hr
  refine x_cW (m_104 h1) rfl rfl rfl rfl (am_recv_v ((rg_pp (W := B)).lt (i := 0) (show 0 < 1 by decide)) ((rg_pp (W := B)).at (i := 0) rfl) rfl) (by omega) ?_
  rcases ite_some hr with ⟨h7, hr⟩ | ⟨h7, hr⟩
  · refine x_zt rfl rfl (decide_eq_true h7) ?_
    refine x_b 1 (S2 := (15, [some (.ref 0), some (.int x1), some (.ref 46), none], [.long 0, .int 0, .ref 46], (mk B3), B3.kc, B3.kn)) rfl ?_
    refine x_fg (Lq.n (Lq.n (Lq.n (Lq.s Lq.nil)))) ?_
    exact j_283_0_j15 hd hr kr
  · refine x_zf rfl rfl (decide_eq_false h7) ?_
    refine x_b 2 (S2 := (15, [some (.ref 0), some (.int x1), some (.ref 46), none], [.long 1, .int 0, .ref 46], (mk B3), B3.kc, B3.kn)) rfl ?_
    refine x_fg (Lq.n (Lq.n (Lq.n (Lq.s Lq.nil)))) ?_
    exact j_283_0_j15 hd hr kr
theorem m_283 {B : Wd} {x1 : Int32} {o : Int32 × Wd} (hr : F_283 B x1 = some o) : RnW 10 283 [.ref 0, .int x1, .ref 46] B (.inl (some (.int o.1))) o.2 :=
  x_methW (M := am_M283) rfl (show 3 ≤ 4 by decide) (f_283 (Nat.le_refl _) hr rfl)
/-- PebbleProofsLaw.next(LPebbleProofs;I[J)I -/
def F_284 (B : Wd) (x1 : Int32) : Option (Int32 × Wd) :=
  (F_106 B x1).bind fun (r2, B3) =>
  xq r2 (fun X4 =>
    if X4 = 2 then (
      some (1, B3)) else if X4 = 4 then (
      some (2, B3)) else none) fun v5 =>
  (ix 0 1).bind fun i8 =>
  (some (vp_updL B3.out i8 v5.toInt64)).bind fun o10 =>
  (some (B3.w_out o10)).bind fun B12 =>
  some (0, B12)
theorem f_284 {d : Nat} (hd : 9 ≤ d) {scr : ASc} {res : ARe} {B : Wd} {x1 : Int32} {o : Int32 × Wd} (hr : F_284 B x1 = some o) (kr : res = (.inl (some (.int o.1)), mk o.2, Wd.kc o.2, Wd.kn o.2)) : Ex d am_M284 scr (0, [some (.ref 0), some (.int x1), some (.ref 46), none], [], (mk B), B.kc, B.kn) res := by
  delta F_284 at hr
  refine x_ldan rfl rfl rfl ((rg_out (W := B)).lt (i := 0) (show 0 < 1 by decide)) ?_
  refine x_b 1 (S2 := (2, [some (.ref 0), some (.int x1), some (.ref 46), none], [.int 0, .ref 46], (mk B), B.kc, B.kn)) rfl ?_
  refine x_ldan rfl rfl rfl ((rg_pp (W := B)).lt (i := 0) (show 0 < 1 by decide)) ?_
  refine x_b 1 (S2 := (4, [some (.ref 0), some (.int x1), some (.ref 46), none], [.int x1, .ref 0, .int 0, .ref 46], (mk B), B.kc, B.kn)) rfl ?_
  obtain ⟨⟨r2, B3⟩, h1, hr⟩ := bd_some hr
  have hr9 := xq_some hr
  clear hr
  rcases hr9 with ⟨X4, rfl, hr⟩ | ⟨v5, rfl, hr⟩
  · rcases ite_some hr with ⟨h6, hr⟩ | ⟨h6, hr⟩
    · subst h6
      refine x_cH (m_106 h1) rfl rfl rfl rfl (am_recv_v ((rg_pp (W := B)).lt (i := 0) (show 0 < 1 by decide)) ((rg_pp (W := B)).at (i := 0) rfl) rfl) (by omega) rfl rfl ?_
      refine x_b 1 (S2 := (14, [some (.ref 0), some (.int x1), some (.ref 46), none], [.int 1], (mk B3), B3.kc, B3.kn)) rfl ?_
      cases hr
      rw [kr]
      exact x_ret rfl rfl am_ret_i
    rcases ite_some hr with ⟨h7, hr⟩ | ⟨h7, hr⟩
    · subst h7
      refine x_cH (m_106 h1) rfl rfl rfl rfl (am_recv_v ((rg_pp (W := B)).lt (i := 0) (show 0 < 1 by decide)) ((rg_pp (W := B)).at (i := 0) rfl) rfl) (by omega) rfl rfl ?_
      refine x_b 1 (S2 := (17, [some (.ref 0), some (.int x1), some (.ref 46), none], [.int 2], (mk B3), B3.kc, B3.kn)) rfl ?_
      cases hr
      rw [kr]
      exact x_ret rfl rfl am_ret_i
    cases hr
  refine x_cW (m_106 h1) rfl rfl rfl rfl (am_recv_v ((rg_pp (W := B)).lt (i := 0) (show 0 < 1 by decide)) ((rg_pp (W := B)).at (i := 0) rfl) rfl) (by omega) ?_
  refine x_b 1 (S2 := (8, [some (.ref 0), some (.int x1), some (.ref 46), none], [.long v5.toInt64, .int 0, .ref 46], (mk B3), B3.kc, B3.kn)) rfl ?_
  obtain ⟨i8, h9, hr⟩ := bd_some hr
  obtain ⟨o10, h11, hr⟩ := bd_some hr
  obtain ⟨B12, h13, hr⟩ := bd_some hr
  refine x_last (H := (mk B12)) rfl rfl ((rg_out (W := B3)).lt (i := 0) (show 0 < 1 by decide)) ((rg_out (W := B3)).at (i := 0) rfl) h9 (ws_out (i := 0) (Lr.s_ h11) h13 (by decide)) ?_
  refine x_kk (kk_out h13) ?_
  refine x_b 2 (S2 := (19, [some (.ref 0), some (.int x1), some (.ref 46), none], [.int 0], (mk B12), B12.kc, B12.kn)) rfl ?_
  cases hr
  rw [kr]
  exact x_ret rfl rfl am_ret_i
theorem m_284 {B : Wd} {x1 : Int32} {o : Int32 × Wd} (hr : F_284 B x1 = some o) : RnW 10 284 [.ref 0, .int x1, .ref 46] B (.inl (some (.int o.1))) o.2 :=
  x_methW (M := am_M284) rfl (show 3 ≤ 4 by decide) (f_284 (Nat.le_refl _) hr rfl)
/-- PebbleProofsLaw.fewest(LPebbleProofs;I[J)I -/
def F_285 (B : Wd) (x1 : Int32) : Option (Int32 × Wd) :=
  (F_107 B x1).bind fun (r2, B3) =>
  xq r2 (fun X4 =>
    if X4 = 2 then (
      some (1, B3)) else if X4 = 3 then (
      some (2, B3)) else if X4 = 4 then (
      some (3, B3)) else none) fun v5 =>
  (ix 0 1).bind fun i9 =>
  (some (vp_updL B3.out i9 v5.toInt64)).bind fun o11 =>
  (some (B3.w_out o11)).bind fun B13 =>
  some (0, B13)
theorem f_285 {d : Nat} (hd : 9 ≤ d) {scr : ASc} {res : ARe} {B : Wd} {x1 : Int32} {o : Int32 × Wd} (hr : F_285 B x1 = some o) (kr : res = (.inl (some (.int o.1)), mk o.2, Wd.kc o.2, Wd.kn o.2)) : Ex d am_M285 scr (0, [some (.ref 0), some (.int x1), some (.ref 46), none], [], (mk B), B.kc, B.kn) res := by
  delta F_285 at hr
  refine x_ldan rfl rfl rfl ((rg_out (W := B)).lt (i := 0) (show 0 < 1 by decide)) ?_
  refine x_b 1 (S2 := (2, [some (.ref 0), some (.int x1), some (.ref 46), none], [.int 0, .ref 46], (mk B), B.kc, B.kn)) rfl ?_
  refine x_ldan rfl rfl rfl ((rg_pp (W := B)).lt (i := 0) (show 0 < 1 by decide)) ?_
  refine x_b 1 (S2 := (4, [some (.ref 0), some (.int x1), some (.ref 46), none], [.int x1, .ref 0, .int 0, .ref 46], (mk B), B.kc, B.kn)) rfl ?_
  obtain ⟨⟨r2, B3⟩, h1, hr⟩ := bd_some hr
  have hr9 := xq_some hr
  clear hr
  rcases hr9 with ⟨X4, rfl, hr⟩ | ⟨v5, rfl, hr⟩
  · rcases ite_some hr with ⟨h6, hr⟩ | ⟨h6, hr⟩
    · subst h6
      refine x_cH (m_107 h1) rfl rfl rfl rfl (am_recv_v ((rg_pp (W := B)).lt (i := 0) (show 0 < 1 by decide)) ((rg_pp (W := B)).at (i := 0) rfl) rfl) (by omega) rfl rfl ?_
      refine x_b 1 (S2 := (14, [some (.ref 0), some (.int x1), some (.ref 46), none], [.int 1], (mk B3), B3.kc, B3.kn)) rfl ?_
      cases hr
      rw [kr]
      exact x_ret rfl rfl am_ret_i
    rcases ite_some hr with ⟨h7, hr⟩ | ⟨h7, hr⟩
    · subst h7
      refine x_cH (m_107 h1) rfl rfl rfl rfl (am_recv_v ((rg_pp (W := B)).lt (i := 0) (show 0 < 1 by decide)) ((rg_pp (W := B)).at (i := 0) rfl) rfl) (by omega) rfl rfl ?_
      refine x_b 1 (S2 := (17, [some (.ref 0), some (.int x1), some (.ref 46), none], [.int 2], (mk B3), B3.kc, B3.kn)) rfl ?_
      cases hr
      rw [kr]
      exact x_ret rfl rfl am_ret_i
    rcases ite_some hr with ⟨h8, hr⟩ | ⟨h8, hr⟩
    · subst h8
      refine x_cH (m_107 h1) rfl rfl rfl rfl (am_recv_v ((rg_pp (W := B)).lt (i := 0) (show 0 < 1 by decide)) ((rg_pp (W := B)).at (i := 0) rfl) rfl) (by omega) rfl rfl ?_
      refine x_b 1 (S2 := (20, [some (.ref 0), some (.int x1), some (.ref 46), none], [.int 3], (mk B3), B3.kc, B3.kn)) rfl ?_
      cases hr
      rw [kr]
      exact x_ret rfl rfl am_ret_i
    cases hr
  refine x_cW (m_107 h1) rfl rfl rfl rfl (am_recv_v ((rg_pp (W := B)).lt (i := 0) (show 0 < 1 by decide)) ((rg_pp (W := B)).at (i := 0) rfl) rfl) (by omega) ?_
  refine x_b 1 (S2 := (8, [some (.ref 0), some (.int x1), some (.ref 46), none], [.long v5.toInt64, .int 0, .ref 46], (mk B3), B3.kc, B3.kn)) rfl ?_
  obtain ⟨i9, h10, hr⟩ := bd_some hr
  obtain ⟨o11, h12, hr⟩ := bd_some hr
  obtain ⟨B13, h14, hr⟩ := bd_some hr
  refine x_last (H := (mk B13)) rfl rfl ((rg_out (W := B3)).lt (i := 0) (show 0 < 1 by decide)) ((rg_out (W := B3)).at (i := 0) rfl) h10 (ws_out (i := 0) (Lr.s_ h12) h14 (by decide)) ?_
  refine x_kk (kk_out h14) ?_
  refine x_b 2 (S2 := (22, [some (.ref 0), some (.int x1), some (.ref 46), none], [.int 0], (mk B13), B13.kc, B13.kn)) rfl ?_
  cases hr
  rw [kr]
  exact x_ret rfl rfl am_ret_i
theorem m_285 {B : Wd} {x1 : Int32} {o : Int32 × Wd} (hr : F_285 B x1 = some o) : RnW 10 285 [.ref 0, .int x1, .ref 46] B (.inl (some (.int o.1))) o.2 :=
  x_methW (M := am_M285) rfl (show 3 ≤ 4 by decide) (f_285 (Nat.le_refl _) hr rfl)
/-- PebbleProofsLaw.number(LPebbleProofs;I[J)I -/
def F_286 (B : Wd) (x1 : Int32) : Option (Int32 × Wd) :=
  (F_109 B x1).bind fun (r2, B3) =>
  xq r2 (fun X4 =>
    if X4 = 2 then (
      some (1, B3)) else none) fun v5 =>
  (ix 0 1).bind fun i7 =>
  (some (vp_updL B3.out i7 v5.toInt64)).bind fun o9 =>
  (some (B3.w_out o9)).bind fun B11 =>
  some (0, B11)
theorem f_286 {d : Nat} (hd : 9 ≤ d) {scr : ASc} {res : ARe} {B : Wd} {x1 : Int32} {o : Int32 × Wd} (hr : F_286 B x1 = some o) (kr : res = (.inl (some (.int o.1)), mk o.2, Wd.kc o.2, Wd.kn o.2)) : Ex d am_M286 scr (0, [some (.ref 0), some (.int x1), some (.ref 46), none], [], (mk B), B.kc, B.kn) res := by
  delta F_286 at hr
  refine x_ldan rfl rfl rfl ((rg_out (W := B)).lt (i := 0) (show 0 < 1 by decide)) ?_
  refine x_b 1 (S2 := (2, [some (.ref 0), some (.int x1), some (.ref 46), none], [.int 0, .ref 46], (mk B), B.kc, B.kn)) rfl ?_
  refine x_ldan rfl rfl rfl ((rg_pp (W := B)).lt (i := 0) (show 0 < 1 by decide)) ?_
  refine x_b 1 (S2 := (4, [some (.ref 0), some (.int x1), some (.ref 46), none], [.int x1, .ref 0, .int 0, .ref 46], (mk B), B.kc, B.kn)) rfl ?_
  obtain ⟨⟨r2, B3⟩, h1, hr⟩ := bd_some hr
  have hr9 := xq_some hr
  clear hr
  rcases hr9 with ⟨X4, rfl, hr⟩ | ⟨v5, rfl, hr⟩
  · rcases ite_some hr with ⟨h6, hr⟩ | ⟨h6, hr⟩
    · subst h6
      refine x_cH (m_109 h1) rfl rfl rfl rfl (am_recv_v ((rg_pp (W := B)).lt (i := 0) (show 0 < 1 by decide)) ((rg_pp (W := B)).at (i := 0) rfl) rfl) (by omega) rfl rfl ?_
      refine x_b 1 (S2 := (14, [some (.ref 0), some (.int x1), some (.ref 46), none], [.int 1], (mk B3), B3.kc, B3.kn)) rfl ?_
      cases hr
      rw [kr]
      exact x_ret rfl rfl am_ret_i
    cases hr
  refine x_cW (m_109 h1) rfl rfl rfl rfl (am_recv_v ((rg_pp (W := B)).lt (i := 0) (show 0 < 1 by decide)) ((rg_pp (W := B)).at (i := 0) rfl) rfl) (by omega) ?_
  refine x_b 1 (S2 := (8, [some (.ref 0), some (.int x1), some (.ref 46), none], [.long v5.toInt64, .int 0, .ref 46], (mk B3), B3.kc, B3.kn)) rfl ?_
  obtain ⟨i7, h8, hr⟩ := bd_some hr
  obtain ⟨o9, h10, hr⟩ := bd_some hr
  obtain ⟨B11, h12, hr⟩ := bd_some hr
  refine x_last (H := (mk B11)) rfl rfl ((rg_out (W := B3)).lt (i := 0) (show 0 < 1 by decide)) ((rg_out (W := B3)).at (i := 0) rfl) h8 (ws_out (i := 0) (Lr.s_ h10) h12 (by decide)) ?_
  refine x_kk (kk_out h12) ?_
  refine x_b 2 (S2 := (16, [some (.ref 0), some (.int x1), some (.ref 46), none], [.int 0], (mk B11), B11.kc, B11.kn)) rfl ?_
  cases hr
  rw [kr]
  exact x_ret rfl rfl am_ret_i
theorem m_286 {B : Wd} {x1 : Int32} {o : Int32 × Wd} (hr : F_286 B x1 = some o) : RnW 10 286 [.ref 0, .int x1, .ref 46] B (.inl (some (.int o.1))) o.2 :=
  x_methW (M := am_M286) rfl (show 3 ≤ 4 by decide) (f_286 (Nat.le_refl _) hr rfl)
/-- PebbleProofsLaw.worst(LPebbleProofs;II[J)I -/
def F_287 (B : Wd) (x1 : Int32) (x2 : Int32) : Option (Int32 × Wd) :=
  (F_111 B x1 x2).bind fun (r2, B3) =>
  xq r2 (fun X4 =>
    if X4 = 2 then (
      some (1, B3)) else none) fun v5 =>
  (ix 0 1).bind fun i7 =>
  (some (vp_updL B3.out i7 v5.toInt64)).bind fun o9 =>
  (some (B3.w_out o9)).bind fun B11 =>
  some (0, B11)
theorem f_287 {d : Nat} (hd : 9 ≤ d) {scr : ASc} {res : ARe} {B : Wd} {x1 : Int32} {x2 : Int32} {o : Int32 × Wd} (hr : F_287 B x1 x2 = some o) (kr : res = (.inl (some (.int o.1)), mk o.2, Wd.kc o.2, Wd.kn o.2)) : Ex d am_M287 scr (0, [some (.ref 0), some (.int x1), some (.int x2), some (.ref 46), none], [], (mk B), B.kc, B.kn) res := by
  delta F_287 at hr
  refine x_ldan rfl rfl rfl ((rg_out (W := B)).lt (i := 0) (show 0 < 1 by decide)) ?_
  refine x_b 1 (S2 := (2, [some (.ref 0), some (.int x1), some (.int x2), some (.ref 46), none], [.int 0, .ref 46], (mk B), B.kc, B.kn)) rfl ?_
  refine x_ldan rfl rfl rfl ((rg_pp (W := B)).lt (i := 0) (show 0 < 1 by decide)) ?_
  refine x_b 2 (S2 := (5, [some (.ref 0), some (.int x1), some (.int x2), some (.ref 46), none], [.int x2, .int x1, .ref 0, .int 0, .ref 46], (mk B), B.kc, B.kn)) rfl ?_
  obtain ⟨⟨r2, B3⟩, h1, hr⟩ := bd_some hr
  have hr9 := xq_some hr
  clear hr
  rcases hr9 with ⟨X4, rfl, hr⟩ | ⟨v5, rfl, hr⟩
  · rcases ite_some hr with ⟨h6, hr⟩ | ⟨h6, hr⟩
    · subst h6
      refine x_cH (m_111 h1) rfl rfl rfl rfl (am_recv_v ((rg_pp (W := B)).lt (i := 0) (show 0 < 1 by decide)) ((rg_pp (W := B)).at (i := 0) rfl) rfl) (by omega) rfl rfl ?_
      refine x_b 1 (S2 := (16, [some (.ref 0), some (.int x1), some (.int x2), some (.ref 46), none], [.int 1], (mk B3), B3.kc, B3.kn)) rfl ?_
      cases hr
      rw [kr]
      exact x_ret rfl rfl am_ret_i
    cases hr
  refine x_cW (m_111 h1) rfl rfl rfl rfl (am_recv_v ((rg_pp (W := B)).lt (i := 0) (show 0 < 1 by decide)) ((rg_pp (W := B)).at (i := 0) rfl) rfl) (by omega) ?_
  refine x_b 1 (S2 := (9, [some (.ref 0), some (.int x1), some (.int x2), some (.ref 46), none], [.long v5.toInt64, .int 0, .ref 46], (mk B3), B3.kc, B3.kn)) rfl ?_
  obtain ⟨i7, h8, hr⟩ := bd_some hr
  obtain ⟨o9, h10, hr⟩ := bd_some hr
  obtain ⟨B11, h12, hr⟩ := bd_some hr
  refine x_last (H := (mk B11)) rfl rfl ((rg_out (W := B3)).lt (i := 0) (show 0 < 1 by decide)) ((rg_out (W := B3)).at (i := 0) rfl) h8 (ws_out (i := 0) (Lr.s_ h10) h12 (by decide)) ?_
  refine x_kk (kk_out h12) ?_
  refine x_b 2 (S2 := (18, [some (.ref 0), some (.int x1), some (.int x2), some (.ref 46), none], [.int 0], (mk B11), B11.kc, B11.kn)) rfl ?_
  cases hr
  rw [kr]
  exact x_ret rfl rfl am_ret_i
theorem m_287 {B : Wd} {x1 : Int32} {x2 : Int32} {o : Int32 × Wd} (hr : F_287 B x1 x2 = some o) : RnW 10 287 [.ref 0, .int x1, .int x2, .ref 46] B (.inl (some (.int o.1))) o.2 :=
  x_methW (M := am_M287) rfl (show 4 ≤ 5 by decide) (f_287 (Nat.le_refl _) hr rfl)
/-- PebbleProofsLaw.worstPiles(LPebbleProofs;I[J)I -/
def F_288 (B : Wd) (x1 : Int32) : Option (Int32 × Wd) :=
  (F_112 B x1).bind fun (r2, B3) =>
  xq r2 (fun X4 =>
    if X4 = 2 then (
      some (1, B3)) else none) fun v5 =>
  (ix 0 1).bind fun i7 =>
  (some (vp_updL B3.out i7 v5.toInt64)).bind fun o9 =>
  (some (B3.w_out o9)).bind fun B11 =>
  some (0, B11)
theorem f_288 {d : Nat} (hd : 9 ≤ d) {scr : ASc} {res : ARe} {B : Wd} {x1 : Int32} {o : Int32 × Wd} (hr : F_288 B x1 = some o) (kr : res = (.inl (some (.int o.1)), mk o.2, Wd.kc o.2, Wd.kn o.2)) : Ex d am_M288 scr (0, [some (.ref 0), some (.int x1), some (.ref 46), none], [], (mk B), B.kc, B.kn) res := by
  delta F_288 at hr
  refine x_ldan rfl rfl rfl ((rg_out (W := B)).lt (i := 0) (show 0 < 1 by decide)) ?_
  refine x_b 1 (S2 := (2, [some (.ref 0), some (.int x1), some (.ref 46), none], [.int 0, .ref 46], (mk B), B.kc, B.kn)) rfl ?_
  refine x_ldan rfl rfl rfl ((rg_pp (W := B)).lt (i := 0) (show 0 < 1 by decide)) ?_
  refine x_b 1 (S2 := (4, [some (.ref 0), some (.int x1), some (.ref 46), none], [.int x1, .ref 0, .int 0, .ref 46], (mk B), B.kc, B.kn)) rfl ?_
  obtain ⟨⟨r2, B3⟩, h1, hr⟩ := bd_some hr
  have hr9 := xq_some hr
  clear hr
  rcases hr9 with ⟨X4, rfl, hr⟩ | ⟨v5, rfl, hr⟩
  · rcases ite_some hr with ⟨h6, hr⟩ | ⟨h6, hr⟩
    · subst h6
      refine x_cH (m_112 h1) rfl rfl rfl rfl (am_recv_v ((rg_pp (W := B)).lt (i := 0) (show 0 < 1 by decide)) ((rg_pp (W := B)).at (i := 0) rfl) rfl) (by omega) rfl rfl ?_
      refine x_b 1 (S2 := (14, [some (.ref 0), some (.int x1), some (.ref 46), none], [.int 1], (mk B3), B3.kc, B3.kn)) rfl ?_
      cases hr
      rw [kr]
      exact x_ret rfl rfl am_ret_i
    cases hr
  refine x_cW (m_112 h1) rfl rfl rfl rfl (am_recv_v ((rg_pp (W := B)).lt (i := 0) (show 0 < 1 by decide)) ((rg_pp (W := B)).at (i := 0) rfl) rfl) (by omega) ?_
  refine x_b 1 (S2 := (8, [some (.ref 0), some (.int x1), some (.ref 46), none], [.long v5.toInt64, .int 0, .ref 46], (mk B3), B3.kc, B3.kn)) rfl ?_
  obtain ⟨i7, h8, hr⟩ := bd_some hr
  obtain ⟨o9, h10, hr⟩ := bd_some hr
  obtain ⟨B11, h12, hr⟩ := bd_some hr
  refine x_last (H := (mk B11)) rfl rfl ((rg_out (W := B3)).lt (i := 0) (show 0 < 1 by decide)) ((rg_out (W := B3)).at (i := 0) rfl) h8 (ws_out (i := 0) (Lr.s_ h10) h12 (by decide)) ?_
  refine x_kk (kk_out h12) ?_
  refine x_b 2 (S2 := (16, [some (.ref 0), some (.int x1), some (.ref 46), none], [.int 0], (mk B11), B11.kc, B11.kn)) rfl ?_
  cases hr
  rw [kr]
  exact x_ret rfl rfl am_ret_i
theorem m_288 {B : Wd} {x1 : Int32} {o : Int32 × Wd} (hr : F_288 B x1 = some o) : RnW 10 288 [.ref 0, .int x1, .ref 46] B (.inl (some (.int o.1))) o.2 :=
  x_methW (M := am_M288) rfl (show 3 ≤ 4 by decide) (f_288 (Nat.le_refl _) hr rfl)
/-- PebbleProofsLaw.failing(LPebbleProofs;II[J)I -/
def F_289 (B : Wd) (x1 : Int32) (x2 : Int32) : Option (Int32 × Wd) :=
  (F_113 B x1 x2).bind fun (r2, B3) =>
  xq r2 (fun X4 =>
    if X4 = 2 then (
      some (1, B3)) else if X4 = 1 then (
      some (2, B3)) else none) fun v5 =>
  (ix 0 1).bind fun i8 =>
  (some (vp_updL B3.out i8 v5.toInt64)).bind fun o10 =>
  (some (B3.w_out o10)).bind fun B12 =>
  some (0, B12)
theorem f_289 {d : Nat} (hd : 9 ≤ d) {scr : ASc} {res : ARe} {B : Wd} {x1 : Int32} {x2 : Int32} {o : Int32 × Wd} (hr : F_289 B x1 x2 = some o) (kr : res = (.inl (some (.int o.1)), mk o.2, Wd.kc o.2, Wd.kn o.2)) : Ex d am_M289 scr (0, [some (.ref 0), some (.int x1), some (.int x2), some (.ref 46), none], [], (mk B), B.kc, B.kn) res := by
  delta F_289 at hr
  refine x_ldan rfl rfl rfl ((rg_out (W := B)).lt (i := 0) (show 0 < 1 by decide)) ?_
  refine x_b 1 (S2 := (2, [some (.ref 0), some (.int x1), some (.int x2), some (.ref 46), none], [.int 0, .ref 46], (mk B), B.kc, B.kn)) rfl ?_
  refine x_ldan rfl rfl rfl ((rg_pp (W := B)).lt (i := 0) (show 0 < 1 by decide)) ?_
  refine x_b 2 (S2 := (5, [some (.ref 0), some (.int x1), some (.int x2), some (.ref 46), none], [.int x2, .int x1, .ref 0, .int 0, .ref 46], (mk B), B.kc, B.kn)) rfl ?_
  obtain ⟨⟨r2, B3⟩, h1, hr⟩ := bd_some hr
  have hr9 := xq_some hr
  clear hr
  rcases hr9 with ⟨X4, rfl, hr⟩ | ⟨v5, rfl, hr⟩
  · rcases ite_some hr with ⟨h6, hr⟩ | ⟨h6, hr⟩
    · subst h6
      refine x_cH (m_113 h1) rfl rfl rfl rfl (am_recv_v ((rg_pp (W := B)).lt (i := 0) (show 0 < 1 by decide)) ((rg_pp (W := B)).at (i := 0) rfl) rfl) (by omega) rfl rfl ?_
      refine x_b 1 (S2 := (16, [some (.ref 0), some (.int x1), some (.int x2), some (.ref 46), none], [.int 1], (mk B3), B3.kc, B3.kn)) rfl ?_
      cases hr
      rw [kr]
      exact x_ret rfl rfl am_ret_i
    rcases ite_some hr with ⟨h7, hr⟩ | ⟨h7, hr⟩
    · subst h7
      refine x_cH (m_113 h1) rfl rfl rfl rfl (am_recv_v ((rg_pp (W := B)).lt (i := 0) (show 0 < 1 by decide)) ((rg_pp (W := B)).at (i := 0) rfl) rfl) (by omega) rfl rfl ?_
      refine x_b 1 (S2 := (20, [some (.ref 0), some (.int x1), some (.int x2), some (.ref 46), none], [.int 2], (mk B3), B3.kc, B3.kn)) rfl ?_
      cases hr
      rw [kr]
      exact x_ret rfl rfl am_ret_i
    cases hr
  refine x_cW (m_113 h1) rfl rfl rfl rfl (am_recv_v ((rg_pp (W := B)).lt (i := 0) (show 0 < 1 by decide)) ((rg_pp (W := B)).at (i := 0) rfl) rfl) (by omega) ?_
  refine x_b 1 (S2 := (9, [some (.ref 0), some (.int x1), some (.int x2), some (.ref 46), none], [.long v5.toInt64, .int 0, .ref 46], (mk B3), B3.kc, B3.kn)) rfl ?_
  obtain ⟨i8, h9, hr⟩ := bd_some hr
  obtain ⟨o10, h11, hr⟩ := bd_some hr
  obtain ⟨B12, h13, hr⟩ := bd_some hr
  refine x_last (H := (mk B12)) rfl rfl ((rg_out (W := B3)).lt (i := 0) (show 0 < 1 by decide)) ((rg_out (W := B3)).at (i := 0) rfl) h9 (ws_out (i := 0) (Lr.s_ h11) h13 (by decide)) ?_
  refine x_kk (kk_out h13) ?_
  refine x_b 2 (S2 := (22, [some (.ref 0), some (.int x1), some (.int x2), some (.ref 46), none], [.int 0], (mk B12), B12.kc, B12.kn)) rfl ?_
  cases hr
  rw [kr]
  exact x_ret rfl rfl am_ret_i
theorem m_289 {B : Wd} {x1 : Int32} {x2 : Int32} {o : Int32 × Wd} (hr : F_289 B x1 x2 = some o) : RnW 10 289 [.ref 0, .int x1, .int x2, .ref 46] B (.inl (some (.int o.1))) o.2 :=
  x_methW (M := am_M289) rfl (show 4 ≤ 5 by decide) (f_289 (Nat.le_refl _) hr rfl)
/-- PebbleProofsLaw.treeNumber(LPebbleProofs;I[J)I -/
def F_290 (B : Wd) (x1 : Int32) : Option (Int32 × Wd) :=
  (F_114 B x1).bind fun (r2, B3) =>
  xq r2 (fun X4 =>
    if X4 = 2 then (
      some (1, B3)) else if X4 = 3 then (
      some (2, B3)) else none) fun v5 =>
  (ix 0 1).bind fun i8 =>
  (some (vp_updL B3.out i8 v5.toInt64)).bind fun o10 =>
  (some (B3.w_out o10)).bind fun B12 =>
  some (0, B12)
theorem f_290 {d : Nat} (hd : 9 ≤ d) {scr : ASc} {res : ARe} {B : Wd} {x1 : Int32} {o : Int32 × Wd} (hr : F_290 B x1 = some o) (kr : res = (.inl (some (.int o.1)), mk o.2, Wd.kc o.2, Wd.kn o.2)) : Ex d am_M290 scr (0, [some (.ref 0), some (.int x1), some (.ref 46), none], [], (mk B), B.kc, B.kn) res := by
  delta F_290 at hr
  refine x_ldan rfl rfl rfl ((rg_out (W := B)).lt (i := 0) (show 0 < 1 by decide)) ?_
  refine x_b 1 (S2 := (2, [some (.ref 0), some (.int x1), some (.ref 46), none], [.int 0, .ref 46], (mk B), B.kc, B.kn)) rfl ?_
  refine x_ldan rfl rfl rfl ((rg_pp (W := B)).lt (i := 0) (show 0 < 1 by decide)) ?_
  refine x_b 1 (S2 := (4, [some (.ref 0), some (.int x1), some (.ref 46), none], [.int x1, .ref 0, .int 0, .ref 46], (mk B), B.kc, B.kn)) rfl ?_
  obtain ⟨⟨r2, B3⟩, h1, hr⟩ := bd_some hr
  have hr9 := xq_some hr
  clear hr
  rcases hr9 with ⟨X4, rfl, hr⟩ | ⟨v5, rfl, hr⟩
  · rcases ite_some hr with ⟨h6, hr⟩ | ⟨h6, hr⟩
    · subst h6
      refine x_cH (m_114 h1) rfl rfl rfl rfl (am_recv_v ((rg_pp (W := B)).lt (i := 0) (show 0 < 1 by decide)) ((rg_pp (W := B)).at (i := 0) rfl) rfl) (by omega) rfl rfl ?_
      refine x_b 1 (S2 := (14, [some (.ref 0), some (.int x1), some (.ref 46), none], [.int 1], (mk B3), B3.kc, B3.kn)) rfl ?_
      cases hr
      rw [kr]
      exact x_ret rfl rfl am_ret_i
    rcases ite_some hr with ⟨h7, hr⟩ | ⟨h7, hr⟩
    · subst h7
      refine x_cH (m_114 h1) rfl rfl rfl rfl (am_recv_v ((rg_pp (W := B)).lt (i := 0) (show 0 < 1 by decide)) ((rg_pp (W := B)).at (i := 0) rfl) rfl) (by omega) rfl rfl ?_
      refine x_b 1 (S2 := (17, [some (.ref 0), some (.int x1), some (.ref 46), none], [.int 2], (mk B3), B3.kc, B3.kn)) rfl ?_
      cases hr
      rw [kr]
      exact x_ret rfl rfl am_ret_i
    cases hr
  refine x_cW (m_114 h1) rfl rfl rfl rfl (am_recv_v ((rg_pp (W := B)).lt (i := 0) (show 0 < 1 by decide)) ((rg_pp (W := B)).at (i := 0) rfl) rfl) (by omega) ?_
  refine x_b 1 (S2 := (8, [some (.ref 0), some (.int x1), some (.ref 46), none], [.long v5.toInt64, .int 0, .ref 46], (mk B3), B3.kc, B3.kn)) rfl ?_
  obtain ⟨i8, h9, hr⟩ := bd_some hr
  obtain ⟨o10, h11, hr⟩ := bd_some hr
  obtain ⟨B12, h13, hr⟩ := bd_some hr
  refine x_last (H := (mk B12)) rfl rfl ((rg_out (W := B3)).lt (i := 0) (show 0 < 1 by decide)) ((rg_out (W := B3)).at (i := 0) rfl) h9 (ws_out (i := 0) (Lr.s_ h11) h13 (by decide)) ?_
  refine x_kk (kk_out h13) ?_
  refine x_b 2 (S2 := (19, [some (.ref 0), some (.int x1), some (.ref 46), none], [.int 0], (mk B12), B12.kc, B12.kn)) rfl ?_
  cases hr
  rw [kr]
  exact x_ret rfl rfl am_ret_i
theorem m_290 {B : Wd} {x1 : Int32} {o : Int32 × Wd} (hr : F_290 B x1 = some o) : RnW 10 290 [.ref 0, .int x1, .ref 46] B (.inl (some (.int o.1))) o.2 :=
  x_methW (M := am_M290) rfl (show 3 ≤ 4 by decide) (f_290 (Nat.le_refl _) hr rfl)
/-- PebbleProofsLaw.strategy(LPebbleProofs;III[J)I -/
def F_291 (B : Wd) (x1 : Int32) (x2 : Int32) (x3 : Int32) : Option (Int32 × Wd) :=
  (F_115 B x1 x2 x3).bind fun (r2, B3) =>
  xq r2 (fun X4 =>
    if X4 = 2 then (
      some (1, B3)) else if X4 = 1 then (
      some (2, B3)) else none) fun v5 =>
  (ix 0 1).bind fun i8 =>
  (some (vp_updL B3.out i8 v5.toInt64)).bind fun o10 =>
  (some (B3.w_out o10)).bind fun B12 =>
  some (0, B12)
theorem f_291 {d : Nat} (hd : 9 ≤ d) {scr : ASc} {res : ARe} {B : Wd} {x1 : Int32} {x2 : Int32} {x3 : Int32} {o : Int32 × Wd} (hr : F_291 B x1 x2 x3 = some o) (kr : res = (.inl (some (.int o.1)), mk o.2, Wd.kc o.2, Wd.kn o.2)) : Ex d am_M291 scr (0, [some (.ref 0), some (.int x1), some (.int x2), some (.int x3), some (.ref 46), none], [], (mk B), B.kc, B.kn) res := by
  delta F_291 at hr
  refine x_lda rfl rfl rfl ((rg_out (W := B)).lt (i := 0) (show 0 < 1 by decide)) ?_
  refine x_b 1 (S2 := (3, [some (.ref 0), some (.int x1), some (.int x2), some (.int x3), some (.ref 46), none], [.int 0, .ref 46], (mk B), B.kc, B.kn)) rfl ?_
  refine x_ldan rfl rfl rfl ((rg_pp (W := B)).lt (i := 0) (show 0 < 1 by decide)) ?_
  refine x_b 3 (S2 := (7, [some (.ref 0), some (.int x1), some (.int x2), some (.int x3), some (.ref 46), none], [.int x3, .int x2, .int x1, .ref 0, .int 0, .ref 46], (mk B), B.kc, B.kn)) rfl ?_
  obtain ⟨⟨r2, B3⟩, h1, hr⟩ := bd_some hr
  have hr9 := xq_some hr
  clear hr
  rcases hr9 with ⟨X4, rfl, hr⟩ | ⟨v5, rfl, hr⟩
  · rcases ite_some hr with ⟨h6, hr⟩ | ⟨h6, hr⟩
    · subst h6
      refine x_cH (m_115 h1) rfl rfl rfl rfl (am_recv_v ((rg_pp (W := B)).lt (i := 0) (show 0 < 1 by decide)) ((rg_pp (W := B)).at (i := 0) rfl) rfl) (by omega) rfl rfl ?_
      refine x_b 1 (S2 := (18, [some (.ref 0), some (.int x1), some (.int x2), some (.int x3), some (.ref 46), none], [.int 1], (mk B3), B3.kc, B3.kn)) rfl ?_
      cases hr
      rw [kr]
      exact x_ret rfl rfl am_ret_i
    rcases ite_some hr with ⟨h7, hr⟩ | ⟨h7, hr⟩
    · subst h7
      refine x_cH (m_115 h1) rfl rfl rfl rfl (am_recv_v ((rg_pp (W := B)).lt (i := 0) (show 0 < 1 by decide)) ((rg_pp (W := B)).at (i := 0) rfl) rfl) (by omega) rfl rfl ?_
      refine x_b 1 (S2 := (22, [some (.ref 0), some (.int x1), some (.int x2), some (.int x3), some (.ref 46), none], [.int 2], (mk B3), B3.kc, B3.kn)) rfl ?_
      cases hr
      rw [kr]
      exact x_ret rfl rfl am_ret_i
    cases hr
  refine x_cW (m_115 h1) rfl rfl rfl rfl (am_recv_v ((rg_pp (W := B)).lt (i := 0) (show 0 < 1 by decide)) ((rg_pp (W := B)).at (i := 0) rfl) rfl) (by omega) ?_
  refine x_b 1 (S2 := (11, [some (.ref 0), some (.int x1), some (.int x2), some (.int x3), some (.ref 46), none], [.long v5.toInt64, .int 0, .ref 46], (mk B3), B3.kc, B3.kn)) rfl ?_
  obtain ⟨i8, h9, hr⟩ := bd_some hr
  obtain ⟨o10, h11, hr⟩ := bd_some hr
  obtain ⟨B12, h13, hr⟩ := bd_some hr
  refine x_last (H := (mk B12)) rfl rfl ((rg_out (W := B3)).lt (i := 0) (show 0 < 1 by decide)) ((rg_out (W := B3)).at (i := 0) rfl) h9 (ws_out (i := 0) (Lr.s_ h11) h13 (by decide)) ?_
  refine x_kk (kk_out h13) ?_
  refine x_b 2 (S2 := (24, [some (.ref 0), some (.int x1), some (.int x2), some (.int x3), some (.ref 46), none], [.int 0], (mk B12), B12.kc, B12.kn)) rfl ?_
  cases hr
  rw [kr]
  exact x_ret rfl rfl am_ret_i
theorem m_291 {B : Wd} {x1 : Int32} {x2 : Int32} {x3 : Int32} {o : Int32 × Wd} (hr : F_291 B x1 x2 x3 = some o) : RnW 10 291 [.ref 0, .int x1, .int x2, .int x3, .ref 46] B (.inl (some (.int o.1))) o.2 :=
  x_methW (M := am_M291) rfl (show 5 ≤ 6 by decide) (f_291 (Nat.le_refl _) hr rfl)
/-- PebbleProofsLaw.wrong(LPebbleProofs;I[J)I -/
def F_292 (B : Wd) (x1 : Int32) : Option (Int32 × Wd) :=
  (F_116 B x1).bind fun (r2, B3) =>
  xq r2 (fun X4 =>
    if X4 = 2 then (
      some (1, B3)) else none) fun v5 =>
  (ix 0 1).bind fun i7 =>
  (some (vp_updL B3.out i7 v5.toInt64)).bind fun o9 =>
  (some (B3.w_out o9)).bind fun B11 =>
  some (0, B11)
theorem f_292 {d : Nat} (hd : 9 ≤ d) {scr : ASc} {res : ARe} {B : Wd} {x1 : Int32} {o : Int32 × Wd} (hr : F_292 B x1 = some o) (kr : res = (.inl (some (.int o.1)), mk o.2, Wd.kc o.2, Wd.kn o.2)) : Ex d am_M292 scr (0, [some (.ref 0), some (.int x1), some (.ref 46), none], [], (mk B), B.kc, B.kn) res := by
  delta F_292 at hr
  refine x_ldan rfl rfl rfl ((rg_out (W := B)).lt (i := 0) (show 0 < 1 by decide)) ?_
  refine x_b 1 (S2 := (2, [some (.ref 0), some (.int x1), some (.ref 46), none], [.int 0, .ref 46], (mk B), B.kc, B.kn)) rfl ?_
  refine x_ldan rfl rfl rfl ((rg_pp (W := B)).lt (i := 0) (show 0 < 1 by decide)) ?_
  refine x_b 1 (S2 := (4, [some (.ref 0), some (.int x1), some (.ref 46), none], [.int x1, .ref 0, .int 0, .ref 46], (mk B), B.kc, B.kn)) rfl ?_
  obtain ⟨⟨r2, B3⟩, h1, hr⟩ := bd_some hr
  have hr9 := xq_some hr
  clear hr
  rcases hr9 with ⟨X4, rfl, hr⟩ | ⟨v5, rfl, hr⟩
  · rcases ite_some hr with ⟨h6, hr⟩ | ⟨h6, hr⟩
    · subst h6
      refine x_cH (m_116 h1) rfl rfl rfl rfl (am_recv_v ((rg_pp (W := B)).lt (i := 0) (show 0 < 1 by decide)) ((rg_pp (W := B)).at (i := 0) rfl) rfl) (by omega) rfl rfl ?_
      refine x_b 1 (S2 := (14, [some (.ref 0), some (.int x1), some (.ref 46), none], [.int 1], (mk B3), B3.kc, B3.kn)) rfl ?_
      cases hr
      rw [kr]
      exact x_ret rfl rfl am_ret_i
    cases hr
  refine x_cW (m_116 h1) rfl rfl rfl rfl (am_recv_v ((rg_pp (W := B)).lt (i := 0) (show 0 < 1 by decide)) ((rg_pp (W := B)).at (i := 0) rfl) rfl) (by omega) ?_
  refine x_b 1 (S2 := (8, [some (.ref 0), some (.int x1), some (.ref 46), none], [.long v5.toInt64, .int 0, .ref 46], (mk B3), B3.kc, B3.kn)) rfl ?_
  obtain ⟨i7, h8, hr⟩ := bd_some hr
  obtain ⟨o9, h10, hr⟩ := bd_some hr
  obtain ⟨B11, h12, hr⟩ := bd_some hr
  refine x_last (H := (mk B11)) rfl rfl ((rg_out (W := B3)).lt (i := 0) (show 0 < 1 by decide)) ((rg_out (W := B3)).at (i := 0) rfl) h8 (ws_out (i := 0) (Lr.s_ h10) h12 (by decide)) ?_
  refine x_kk (kk_out h12) ?_
  refine x_b 2 (S2 := (16, [some (.ref 0), some (.int x1), some (.ref 46), none], [.int 0], (mk B11), B11.kc, B11.kn)) rfl ?_
  cases hr
  rw [kr]
  exact x_ret rfl rfl am_ret_i
theorem m_292 {B : Wd} {x1 : Int32} {o : Int32 × Wd} (hr : F_292 B x1 = some o) : RnW 10 292 [.ref 0, .int x1, .ref 46] B (.inl (some (.int o.1))) o.2 :=
  x_methW (M := am_M292) rfl (show 3 ≤ 4 by decide) (f_292 (Nat.le_refl _) hr rfl)
/-- PebbleProofsLaw.weight(LPebbleProofs;IZ[J)I -/
def F_293 (B : Wd) (x1 : Int32) (x2 : Int32) : Option (Int32 × Wd) :=
  (F_117 B x1 x2).bind fun (r2, B3) =>
  xq r2 (fun X4 =>
    if X4 = 2 then (
      some (1, B3)) else none) fun v5 =>
  (ix 0 1).bind fun i7 =>
  (some (vp_updL B3.out i7 v5.toInt64)).bind fun o9 =>
  (some (B3.w_out o9)).bind fun B11 =>
  some (0, B11)
theorem f_293 {d : Nat} (hd : 9 ≤ d) {scr : ASc} {res : ARe} {B : Wd} {x1 : Int32} {x2 : Int32} {o : Int32 × Wd} (hr : F_293 B x1 x2 = some o) (kr : res = (.inl (some (.int o.1)), mk o.2, Wd.kc o.2, Wd.kn o.2)) : Ex d am_M293 scr (0, [some (.ref 0), some (.int x1), some (.int x2), some (.ref 46), none], [], (mk B), B.kc, B.kn) res := by
  delta F_293 at hr
  refine x_ldan rfl rfl rfl ((rg_out (W := B)).lt (i := 0) (show 0 < 1 by decide)) ?_
  refine x_b 1 (S2 := (2, [some (.ref 0), some (.int x1), some (.int x2), some (.ref 46), none], [.int 0, .ref 46], (mk B), B.kc, B.kn)) rfl ?_
  refine x_ldan rfl rfl rfl ((rg_pp (W := B)).lt (i := 0) (show 0 < 1 by decide)) ?_
  refine x_b 2 (S2 := (5, [some (.ref 0), some (.int x1), some (.int x2), some (.ref 46), none], [.int x2, .int x1, .ref 0, .int 0, .ref 46], (mk B), B.kc, B.kn)) rfl ?_
  obtain ⟨⟨r2, B3⟩, h1, hr⟩ := bd_some hr
  have hr9 := xq_some hr
  clear hr
  rcases hr9 with ⟨X4, rfl, hr⟩ | ⟨v5, rfl, hr⟩
  · rcases ite_some hr with ⟨h6, hr⟩ | ⟨h6, hr⟩
    · subst h6
      refine x_cH (m_117 h1) rfl rfl rfl rfl (am_recv_v ((rg_pp (W := B)).lt (i := 0) (show 0 < 1 by decide)) ((rg_pp (W := B)).at (i := 0) rfl) rfl) (by omega) rfl rfl ?_
      refine x_b 1 (S2 := (16, [some (.ref 0), some (.int x1), some (.int x2), some (.ref 46), none], [.int 1], (mk B3), B3.kc, B3.kn)) rfl ?_
      cases hr
      rw [kr]
      exact x_ret rfl rfl am_ret_i
    cases hr
  refine x_cW (m_117 h1) rfl rfl rfl rfl (am_recv_v ((rg_pp (W := B)).lt (i := 0) (show 0 < 1 by decide)) ((rg_pp (W := B)).at (i := 0) rfl) rfl) (by omega) ?_
  refine x_b 1 (S2 := (9, [some (.ref 0), some (.int x1), some (.int x2), some (.ref 46), none], [.long v5.toInt64, .int 0, .ref 46], (mk B3), B3.kc, B3.kn)) rfl ?_
  obtain ⟨i7, h8, hr⟩ := bd_some hr
  obtain ⟨o9, h10, hr⟩ := bd_some hr
  obtain ⟨B11, h12, hr⟩ := bd_some hr
  refine x_last (H := (mk B11)) rfl rfl ((rg_out (W := B3)).lt (i := 0) (show 0 < 1 by decide)) ((rg_out (W := B3)).at (i := 0) rfl) h8 (ws_out (i := 0) (Lr.s_ h10) h12 (by decide)) ?_
  refine x_kk (kk_out h12) ?_
  refine x_b 2 (S2 := (18, [some (.ref 0), some (.int x1), some (.int x2), some (.ref 46), none], [.int 0], (mk B11), B11.kc, B11.kn)) rfl ?_
  cases hr
  rw [kr]
  exact x_ret rfl rfl am_ret_i
theorem m_293 {B : Wd} {x1 : Int32} {x2 : Int32} {o : Int32 × Wd} (hr : F_293 B x1 x2 = some o) : RnW 10 293 [.ref 0, .int x1, .int x2, .ref 46] B (.inl (some (.int o.1))) o.2 :=
  x_methW (M := am_M293) rfl (show 4 ≤ 5 by decide) (f_293 (Nat.le_refl _) hr rfl)
def J_294_0_j15 (B : Wd) (t0 : Int64) (t1 : Int32) : Option (Int32 × Wd) :=
  (ix t1 1).bind fun i8 =>
  (some (vp_updL B.out i8 t0)).bind fun o10 =>
  (some (B.w_out o10)).bind fun B12 =>
  some (0, B12)
theorem j_294_0_j15 {d : Nat} (hd : 9 ≤ d) {scr : ASc} {res : ARe} {B : Wd} {t0 : Int64} {t1 : Int32} {o : Int32 × Wd} (hr : J_294_0_j15 B t0 t1 = some o) (kr : res = (.inl (some (.int o.1)), mk o.2, Wd.kc o.2, Wd.kn o.2)) : Ex d am_M294 scr (15, [none, none, none, none], [.long t0, .int t1, .ref 46], (mk B), B.kc, B.kn) res := by
  delta J_294_0_j15 at hr
  obtain ⟨i8, h9, hr⟩ := bd_some hr
  obtain ⟨o10, h11, hr⟩ := bd_some hr
  obtain ⟨B12, h13, hr⟩ := bd_some hr
  refine x_last (H := (mk B12)) rfl rfl ((rg_out (W := B)).lt (i := 0) (show 0 < 1 by decide)) ((rg_out (W := B)).at (i := 0) rfl) h9 (ws_out (i := 0) (Lr.s_ h11) h13 (by decide)) ?_
  refine x_kk (kk_out h13) ?_
  refine x_b 2 (S2 := (23, [none, none, none, none], [.int 0], (mk B12), B12.kc, B12.kn)) rfl ?_
  cases hr
  rw [kr]
  exact x_ret rfl rfl am_ret_i
/-- PebbleProofsLaw.proves(LPebbleProofs;I[J)I -/
def F_294 (B : Wd) (x1 : Int32) : Option (Int32 × Wd) :=
  (F_118 B x1).bind fun (r2, B3) =>
  xq r2 (fun X4 =>
    if X4 = 2 then (
      some (1, B3)) else none) fun v5 =>
  if v5 = 0 then
    J_294_0_j15 B3 0 0
  else
    J_294_0_j15 B3 1 0
theorem f_294 {d : Nat} (hd : 9 ≤ d) {scr : ASc} {res : ARe} {B : Wd} {x1 : Int32} {o : Int32 × Wd} (hr : F_294 B x1 = some o) (kr : res = (.inl (some (.int o.1)), mk o.2, Wd.kc o.2, Wd.kn o.2)) : Ex d am_M294 scr (0, [some (.ref 0), some (.int x1), some (.ref 46), none], [], (mk B), B.kc, B.kn) res := by
  delta F_294 at hr
  refine x_ldan rfl rfl rfl ((rg_out (W := B)).lt (i := 0) (show 0 < 1 by decide)) ?_
  refine x_b 1 (S2 := (2, [some (.ref 0), some (.int x1), some (.ref 46), none], [.int 0, .ref 46], (mk B), B.kc, B.kn)) rfl ?_
  refine x_ldan rfl rfl rfl ((rg_pp (W := B)).lt (i := 0) (show 0 < 1 by decide)) ?_
  refine x_b 1 (S2 := (4, [some (.ref 0), some (.int x1), some (.ref 46), none], [.int x1, .ref 0, .int 0, .ref 46], (mk B), B.kc, B.kn)) rfl ?_
  obtain ⟨⟨r2, B3⟩, h1, hr⟩ := bd_some hr
  have hr9 := xq_some hr
  clear hr
  rcases hr9 with ⟨X4, rfl, hr⟩ | ⟨v5, rfl, hr⟩
  · rcases ite_some hr with ⟨h6, hr⟩ | ⟨h6, hr⟩
    · subst h6
      refine x_cH (m_118 h1) rfl rfl rfl rfl (am_recv_v ((rg_pp (W := B)).lt (i := 0) (show 0 < 1 by decide)) ((rg_pp (W := B)).at (i := 0) rfl) rfl) (by omega) rfl rfl ?_
      refine x_b 1 (S2 := (21, [some (.ref 0), some (.int x1), some (.ref 46), none], [.int 1], (mk B3), B3.kc, B3.kn)) rfl ?_
      cases hr
      rw [kr]
      exact x_ret rfl rfl am_ret_i
    cases hr
  refine x_cW (m_118 h1) rfl rfl rfl rfl (am_recv_v ((rg_pp (W := B)).lt (i := 0) (show 0 < 1 by decide)) ((rg_pp (W := B)).at (i := 0) rfl) rfl) (by omega) ?_
  rcases ite_some hr with ⟨h7, hr⟩ | ⟨h7, hr⟩
  · refine x_zt rfl rfl (decide_eq_true h7) ?_
    refine x_b 1 (S2 := (15, [some (.ref 0), some (.int x1), some (.ref 46), none], [.long 0, .int 0, .ref 46], (mk B3), B3.kc, B3.kn)) rfl ?_
    refine x_fg (Lq.n (Lq.n (Lq.n (Lq.s Lq.nil)))) ?_
    exact j_294_0_j15 hd hr kr
  · refine x_zf rfl rfl (decide_eq_false h7) ?_
    refine x_b 2 (S2 := (15, [some (.ref 0), some (.int x1), some (.ref 46), none], [.long 1, .int 0, .ref 46], (mk B3), B3.kc, B3.kn)) rfl ?_
    refine x_fg (Lq.n (Lq.n (Lq.n (Lq.s Lq.nil)))) ?_
    exact j_294_0_j15 hd hr kr
theorem m_294 {B : Wd} {x1 : Int32} {o : Int32 × Wd} (hr : F_294 B x1 = some o) : RnW 10 294 [.ref 0, .int x1, .ref 46] B (.inl (some (.int o.1))) o.2 :=
  x_methW (M := am_M294) rfl (show 3 ≤ 4 by decide) (f_294 (Nat.le_refl _) hr rfl)
/-- PebbleProofsLaw.bound(LPebbleProofs;I[J)I -/
def F_295 (B : Wd) (x1 : Int32) : Option (Int32 × Wd) :=
  (F_119 B x1).bind fun (r2, B3) =>
  xq r2 (fun X4 =>
    if X4 = 2 then (
      some (1, B3)) else if X4 = 4 then (
      some (2, B3)) else none) fun v5 =>
  (ix 0 1).bind fun i8 =>
  (some (vp_updL B3.out i8 v5.toInt64)).bind fun o10 =>
  (some (B3.w_out o10)).bind fun B12 =>
  some (0, B12)
theorem f_295 {d : Nat} (hd : 9 ≤ d) {scr : ASc} {res : ARe} {B : Wd} {x1 : Int32} {o : Int32 × Wd} (hr : F_295 B x1 = some o) (kr : res = (.inl (some (.int o.1)), mk o.2, Wd.kc o.2, Wd.kn o.2)) : Ex d am_M295 scr (0, [some (.ref 0), some (.int x1), some (.ref 46), none], [], (mk B), B.kc, B.kn) res := by
  delta F_295 at hr
  refine x_ldan rfl rfl rfl ((rg_out (W := B)).lt (i := 0) (show 0 < 1 by decide)) ?_
  refine x_b 1 (S2 := (2, [some (.ref 0), some (.int x1), some (.ref 46), none], [.int 0, .ref 46], (mk B), B.kc, B.kn)) rfl ?_
  refine x_ldan rfl rfl rfl ((rg_pp (W := B)).lt (i := 0) (show 0 < 1 by decide)) ?_
  refine x_b 1 (S2 := (4, [some (.ref 0), some (.int x1), some (.ref 46), none], [.int x1, .ref 0, .int 0, .ref 46], (mk B), B.kc, B.kn)) rfl ?_
  obtain ⟨⟨r2, B3⟩, h1, hr⟩ := bd_some hr
  have hr9 := xq_some hr
  clear hr
  rcases hr9 with ⟨X4, rfl, hr⟩ | ⟨v5, rfl, hr⟩
  · rcases ite_some hr with ⟨h6, hr⟩ | ⟨h6, hr⟩
    · subst h6
      refine x_cH (m_119 h1) rfl rfl rfl rfl (am_recv_v ((rg_pp (W := B)).lt (i := 0) (show 0 < 1 by decide)) ((rg_pp (W := B)).at (i := 0) rfl) rfl) (by omega) rfl rfl ?_
      refine x_b 1 (S2 := (14, [some (.ref 0), some (.int x1), some (.ref 46), none], [.int 1], (mk B3), B3.kc, B3.kn)) rfl ?_
      cases hr
      rw [kr]
      exact x_ret rfl rfl am_ret_i
    rcases ite_some hr with ⟨h7, hr⟩ | ⟨h7, hr⟩
    · subst h7
      refine x_cH (m_119 h1) rfl rfl rfl rfl (am_recv_v ((rg_pp (W := B)).lt (i := 0) (show 0 < 1 by decide)) ((rg_pp (W := B)).at (i := 0) rfl) rfl) (by omega) rfl rfl ?_
      refine x_b 1 (S2 := (17, [some (.ref 0), some (.int x1), some (.ref 46), none], [.int 2], (mk B3), B3.kc, B3.kn)) rfl ?_
      cases hr
      rw [kr]
      exact x_ret rfl rfl am_ret_i
    cases hr
  refine x_cW (m_119 h1) rfl rfl rfl rfl (am_recv_v ((rg_pp (W := B)).lt (i := 0) (show 0 < 1 by decide)) ((rg_pp (W := B)).at (i := 0) rfl) rfl) (by omega) ?_
  refine x_b 1 (S2 := (8, [some (.ref 0), some (.int x1), some (.ref 46), none], [.long v5.toInt64, .int 0, .ref 46], (mk B3), B3.kc, B3.kn)) rfl ?_
  obtain ⟨i8, h9, hr⟩ := bd_some hr
  obtain ⟨o10, h11, hr⟩ := bd_some hr
  obtain ⟨B12, h13, hr⟩ := bd_some hr
  refine x_last (H := (mk B12)) rfl rfl ((rg_out (W := B3)).lt (i := 0) (show 0 < 1 by decide)) ((rg_out (W := B3)).at (i := 0) rfl) h9 (ws_out (i := 0) (Lr.s_ h11) h13 (by decide)) ?_
  refine x_kk (kk_out h13) ?_
  refine x_b 2 (S2 := (19, [some (.ref 0), some (.int x1), some (.ref 46), none], [.int 0], (mk B12), B12.kc, B12.kn)) rfl ?_
  cases hr
  rw [kr]
  exact x_ret rfl rfl am_ret_i
theorem m_295 {B : Wd} {x1 : Int32} {o : Int32 × Wd} (hr : F_295 B x1 = some o) : RnW 10 295 [.ref 0, .int x1, .ref 46] B (.inl (some (.int o.1))) o.2 :=
  x_methW (M := am_M295) rfl (show 3 ≤ 4 by decide) (f_295 (Nat.le_refl _) hr rfl)
/-- PebbleProofsLaw.stack(LPebbleProofs;I[J)I -/
def F_296 (B : Wd) (x1 : Int32) : Option (Int32 × Wd) :=
  (F_120 B x1).bind fun (r2, B3) =>
  xq r2 (fun X4 =>
    if X4 = 2 then (
      some (1, B3)) else none) fun v5 =>
  (ix 0 1).bind fun i7 =>
  (some (vp_updL B3.out i7 v5.toInt64)).bind fun o9 =>
  (some (B3.w_out o9)).bind fun B11 =>
  some (0, B11)
theorem f_296 {d : Nat} (hd : 9 ≤ d) {scr : ASc} {res : ARe} {B : Wd} {x1 : Int32} {o : Int32 × Wd} (hr : F_296 B x1 = some o) (kr : res = (.inl (some (.int o.1)), mk o.2, Wd.kc o.2, Wd.kn o.2)) : Ex d am_M296 scr (0, [some (.ref 0), some (.int x1), some (.ref 46), none], [], (mk B), B.kc, B.kn) res := by
  delta F_296 at hr
  refine x_ldan rfl rfl rfl ((rg_out (W := B)).lt (i := 0) (show 0 < 1 by decide)) ?_
  refine x_b 1 (S2 := (2, [some (.ref 0), some (.int x1), some (.ref 46), none], [.int 0, .ref 46], (mk B), B.kc, B.kn)) rfl ?_
  refine x_ldan rfl rfl rfl ((rg_pp (W := B)).lt (i := 0) (show 0 < 1 by decide)) ?_
  refine x_b 1 (S2 := (4, [some (.ref 0), some (.int x1), some (.ref 46), none], [.int x1, .ref 0, .int 0, .ref 46], (mk B), B.kc, B.kn)) rfl ?_
  obtain ⟨⟨r2, B3⟩, h1, hr⟩ := bd_some hr
  have hr9 := xq_some hr
  clear hr
  rcases hr9 with ⟨X4, rfl, hr⟩ | ⟨v5, rfl, hr⟩
  · rcases ite_some hr with ⟨h6, hr⟩ | ⟨h6, hr⟩
    · subst h6
      refine x_cH (m_120 h1) rfl rfl rfl rfl (am_recv_v ((rg_pp (W := B)).lt (i := 0) (show 0 < 1 by decide)) ((rg_pp (W := B)).at (i := 0) rfl) rfl) (by omega) rfl rfl ?_
      refine x_b 1 (S2 := (14, [some (.ref 0), some (.int x1), some (.ref 46), none], [.int 1], (mk B3), B3.kc, B3.kn)) rfl ?_
      cases hr
      rw [kr]
      exact x_ret rfl rfl am_ret_i
    cases hr
  refine x_cW (m_120 h1) rfl rfl rfl rfl (am_recv_v ((rg_pp (W := B)).lt (i := 0) (show 0 < 1 by decide)) ((rg_pp (W := B)).at (i := 0) rfl) rfl) (by omega) ?_
  refine x_b 1 (S2 := (8, [some (.ref 0), some (.int x1), some (.ref 46), none], [.long v5.toInt64, .int 0, .ref 46], (mk B3), B3.kc, B3.kn)) rfl ?_
  obtain ⟨i7, h8, hr⟩ := bd_some hr
  obtain ⟨o9, h10, hr⟩ := bd_some hr
  obtain ⟨B11, h12, hr⟩ := bd_some hr
  refine x_last (H := (mk B11)) rfl rfl ((rg_out (W := B3)).lt (i := 0) (show 0 < 1 by decide)) ((rg_out (W := B3)).at (i := 0) rfl) h8 (ws_out (i := 0) (Lr.s_ h10) h12 (by decide)) ?_
  refine x_kk (kk_out h12) ?_
  refine x_b 2 (S2 := (16, [some (.ref 0), some (.int x1), some (.ref 46), none], [.int 0], (mk B11), B11.kc, B11.kn)) rfl ?_
  cases hr
  rw [kr]
  exact x_ret rfl rfl am_ret_i
theorem m_296 {B : Wd} {x1 : Int32} {o : Int32 × Wd} (hr : F_296 B x1 = some o) : RnW 10 296 [.ref 0, .int x1, .ref 46] B (.inl (some (.int o.1))) o.2 :=
  x_methW (M := am_M296) rfl (show 3 ≤ 4 by decide) (f_296 (Nat.le_refl _) hr rfl)
def J_297_0_j14 (B : Wd) (t0 : Int64) (t1 : Int32) : Option (Int32 × Wd) :=
  (ix t1 1).bind fun i8 =>
  (some (vp_updL B.out i8 t0)).bind fun o10 =>
  (some (B.w_out o10)).bind fun B12 =>
  some (0, B12)
theorem j_297_0_j14 {d : Nat} (hd : 9 ≤ d) {scr : ASc} {res : ARe} {B : Wd} {t0 : Int64} {t1 : Int32} {o : Int32 × Wd} (hr : J_297_0_j14 B t0 t1 = some o) (kr : res = (.inl (some (.int o.1)), mk o.2, Wd.kc o.2, Wd.kn o.2)) : Ex d am_M297 scr (14, [none, none, none], [.long t0, .int t1, .ref 46], (mk B), B.kc, B.kn) res := by
  delta J_297_0_j14 at hr
  obtain ⟨i8, h9, hr⟩ := bd_some hr
  obtain ⟨o10, h11, hr⟩ := bd_some hr
  obtain ⟨B12, h13, hr⟩ := bd_some hr
  refine x_last (H := (mk B12)) rfl rfl ((rg_out (W := B)).lt (i := 0) (show 0 < 1 by decide)) ((rg_out (W := B)).at (i := 0) rfl) h9 (ws_out (i := 0) (Lr.s_ h11) h13 (by decide)) ?_
  refine x_kk (kk_out h13) ?_
  refine x_b 2 (S2 := (22, [none, none, none], [.int 0], (mk B12), B12.kc, B12.kn)) rfl ?_
  cases hr
  rw [kr]
  exact x_ret rfl rfl am_ret_i
/-- PebbleProofsLaw.canCover(LPebbleProofs;[J)I -/
def F_297 (B : Wd) : Option (Int32 × Wd) :=
  (F_122 B).bind fun (r2, B3) =>
  xq r2 (fun X4 =>
    if X4 = 3 then (
      some (1, B3)) else none) fun v5 =>
  if v5 = 0 then
    J_297_0_j14 B3 0 0
  else
    J_297_0_j14 B3 1 0
theorem f_297 {d : Nat} (hd : 9 ≤ d) {scr : ASc} {res : ARe} {B : Wd} {o : Int32 × Wd} (hr : F_297 B = some o) (kr : res = (.inl (some (.int o.1)), mk o.2, Wd.kc o.2, Wd.kn o.2)) : Ex d am_M297 scr (0, [some (.ref 0), some (.ref 46), none], [], (mk B), B.kc, B.kn) res := by
  delta F_297 at hr
  refine x_ldan rfl rfl rfl ((rg_out (W := B)).lt (i := 0) (show 0 < 1 by decide)) ?_
  refine x_b 1 (S2 := (2, [some (.ref 0), some (.ref 46), none], [.int 0, .ref 46], (mk B), B.kc, B.kn)) rfl ?_
  refine x_ldan rfl rfl rfl ((rg_pp (W := B)).lt (i := 0) (show 0 < 1 by decide)) ?_
  obtain ⟨⟨r2, B3⟩, h1, hr⟩ := bd_some hr
  have hr9 := xq_some hr
  clear hr
  rcases hr9 with ⟨X4, rfl, hr⟩ | ⟨v5, rfl, hr⟩
  · rcases ite_some hr with ⟨h6, hr⟩ | ⟨h6, hr⟩
    · subst h6
      refine x_cH (m_122 h1) rfl rfl rfl rfl (am_recv_v ((rg_pp (W := B)).lt (i := 0) (show 0 < 1 by decide)) ((rg_pp (W := B)).at (i := 0) rfl) rfl) (by omega) rfl rfl ?_
      refine x_b 1 (S2 := (20, [some (.ref 0), some (.ref 46), none], [.int 1], (mk B3), B3.kc, B3.kn)) rfl ?_
      cases hr
      rw [kr]
      exact x_ret rfl rfl am_ret_i
    cases hr
  refine x_cW (m_122 h1) rfl rfl rfl rfl (am_recv_v ((rg_pp (W := B)).lt (i := 0) (show 0 < 1 by decide)) ((rg_pp (W := B)).at (i := 0) rfl) rfl) (by omega) ?_
  rcases ite_some hr with ⟨h7, hr⟩ | ⟨h7, hr⟩
  · refine x_zt rfl rfl (decide_eq_true h7) ?_
    refine x_b 1 (S2 := (14, [some (.ref 0), some (.ref 46), none], [.long 0, .int 0, .ref 46], (mk B3), B3.kc, B3.kn)) rfl ?_
    refine x_fg (Lq.n (Lq.n (Lq.s Lq.nil))) ?_
    exact j_297_0_j14 hd hr kr
  · refine x_zf rfl rfl (decide_eq_false h7) ?_
    refine x_b 2 (S2 := (14, [some (.ref 0), some (.ref 46), none], [.long 1, .int 0, .ref 46], (mk B3), B3.kc, B3.kn)) rfl ?_
    refine x_fg (Lq.n (Lq.n (Lq.s Lq.nil))) ?_
    exact j_297_0_j14 hd hr kr
theorem m_297 {B : Wd} {o : Int32 × Wd} (hr : F_297 B = some o) : RnW 10 297 [.ref 0, .ref 46] B (.inl (some (.int o.1))) o.2 :=
  x_methW (M := am_M297) rfl (show 2 ≤ 3 by decide) (f_297 (Nat.le_refl _) hr rfl)
/-- PebbleProofsLaw.lacking(LPebbleProofs;[J)I -/
def F_298 (B : Wd) : Option (Int32 × Wd) :=
  (F_123 B).bind fun (r2, B3) =>
  xq r2 (fun X4 =>
    if X4 = 3 then (
      some (1, B3)) else none) fun v5 =>
  (ix 0 1).bind fun i7 =>
  (some (vp_updL B3.out i7 v5.toInt64)).bind fun o9 =>
  (some (B3.w_out o9)).bind fun B11 =>
  some (0, B11)
theorem f_298 {d : Nat} (hd : 9 ≤ d) {scr : ASc} {res : ARe} {B : Wd} {o : Int32 × Wd} (hr : F_298 B = some o) (kr : res = (.inl (some (.int o.1)), mk o.2, Wd.kc o.2, Wd.kn o.2)) : Ex d am_M298 scr (0, [some (.ref 0), some (.ref 46), none], [], (mk B), B.kc, B.kn) res := by
  delta F_298 at hr
  refine x_ldan rfl rfl rfl ((rg_out (W := B)).lt (i := 0) (show 0 < 1 by decide)) ?_
  refine x_b 1 (S2 := (2, [some (.ref 0), some (.ref 46), none], [.int 0, .ref 46], (mk B), B.kc, B.kn)) rfl ?_
  refine x_ldan rfl rfl rfl ((rg_pp (W := B)).lt (i := 0) (show 0 < 1 by decide)) ?_
  obtain ⟨⟨r2, B3⟩, h1, hr⟩ := bd_some hr
  have hr9 := xq_some hr
  clear hr
  rcases hr9 with ⟨X4, rfl, hr⟩ | ⟨v5, rfl, hr⟩
  · rcases ite_some hr with ⟨h6, hr⟩ | ⟨h6, hr⟩
    · subst h6
      refine x_cH (m_123 h1) rfl rfl rfl rfl (am_recv_v ((rg_pp (W := B)).lt (i := 0) (show 0 < 1 by decide)) ((rg_pp (W := B)).at (i := 0) rfl) rfl) (by omega) rfl rfl ?_
      refine x_b 1 (S2 := (13, [some (.ref 0), some (.ref 46), none], [.int 1], (mk B3), B3.kc, B3.kn)) rfl ?_
      cases hr
      rw [kr]
      exact x_ret rfl rfl am_ret_i
    cases hr
  refine x_cW (m_123 h1) rfl rfl rfl rfl (am_recv_v ((rg_pp (W := B)).lt (i := 0) (show 0 < 1 by decide)) ((rg_pp (W := B)).at (i := 0) rfl) rfl) (by omega) ?_
  refine x_b 1 (S2 := (7, [some (.ref 0), some (.ref 46), none], [.long v5.toInt64, .int 0, .ref 46], (mk B3), B3.kc, B3.kn)) rfl ?_
  obtain ⟨i7, h8, hr⟩ := bd_some hr
  obtain ⟨o9, h10, hr⟩ := bd_some hr
  obtain ⟨B11, h12, hr⟩ := bd_some hr
  refine x_last (H := (mk B11)) rfl rfl ((rg_out (W := B3)).lt (i := 0) (show 0 < 1 by decide)) ((rg_out (W := B3)).at (i := 0) rfl) h8 (ws_out (i := 0) (Lr.s_ h10) h12 (by decide)) ?_
  refine x_kk (kk_out h12) ?_
  refine x_b 2 (S2 := (15, [some (.ref 0), some (.ref 46), none], [.int 0], (mk B11), B11.kc, B11.kn)) rfl ?_
  cases hr
  rw [kr]
  exact x_ret rfl rfl am_ret_i
theorem m_298 {B : Wd} {o : Int32 × Wd} (hr : F_298 B = some o) : RnW 10 298 [.ref 0, .ref 46] B (.inl (some (.int o.1))) o.2 :=
  x_methW (M := am_M298) rfl (show 2 ≤ 3 by decide) (f_298 (Nat.le_refl _) hr rfl)
