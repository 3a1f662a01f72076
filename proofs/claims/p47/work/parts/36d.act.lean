/-! ===== STAGE A: act (by wip/p47/genl.py) ===== -/
def J_385_0_j140 (B : Wd) (x0 : Nat) (x1 : Nat) (x5 : Int32) (x6 : Int32) (x7 : Int32) : Option (Int32 × Wd) :=
  if ¬ x7 = 0 then
    if ¬ x5 = x6 then
      (B.gR x0 7 1).bind fun v22 =>
      (B.aR v22 x5).bind fun v24 =>
      (B.aB v24 x6).bind fun v26 =>
      if v26 = 0 then
        (B.rc x0 7).bind fun _ =>
        (F_304 B x0 x5 x6).bind fun B31 =>
        (B31.rc x0 7).bind fun _ =>
        (F_305 B31 x0).bind fun v34 =>
        some (v34, B31)
      else
        (B.rc x1 6).bind fun _ =>
        (F_301 B x1 1).bind fun (v37, B38) =>
        some (v37, B38)
    else
      some ((3294967294 : Int32), B)
  else
    some ((3294967295 : Int32), B)
set_option maxRecDepth 200000 in
theorem j_385_0_j140 {d : Nat} (hd : 68 ≤ d) {scr : ASc} {res : ARe} {B : Wd} {x0 : Nat} {x1 : Nat} {x5 : Int32} {x6 : Int32} {x7 : Int32} {o : Int32 × Wd} (hr : J_385_0_j140 B x0 x1 x5 x6 x7 = some o) (kr : res = (.inl (some (.int o.1)), mk o.2, Wd.kc o.2, Wd.kn o.2)) : Ex d am_M385 scr (140, [some (.ref x0), some (.ref x1), none, none, none, some (.int x5), some (.int x6), some (.int x7), none, none, none, none, none, none], [], (mk B), B.kc, B.kn) res := by
  delta J_385_0_j140 at hr
  refine x_b 1 (S2 := (142, [some (.ref x0), some (.ref x1), none, none, none, some (.int x5), some (.int x6), some (.int x7), none, none, none, none, none, none], [.int x7], (mk B), B.kc, B.kn)) rfl ?_
  rcases ite_some hr with ⟨h20, hr⟩ | ⟨h20, hr⟩
  · refine x_zt rfl rfl (decide_eq_true h20) ?_
    refine x_b 2 (S2 := (152, [some (.ref x0), some (.ref x1), none, none, none, some (.int x5), some (.int x6), some (.int x7), none, none, none, none, none, none], [.int x6, .int x5], (mk B), B.kc, B.kn)) rfl ?_
    rcases ite_some hr with ⟨h21, hr⟩ | ⟨h21, hr⟩
    · refine x_ct rfl rfl (decide_eq_true h21) ?_
      refine x_b 1 (S2 := (159, [some (.ref x0), some (.ref x1), none, none, none, some (.int x5), some (.int x6), some (.int x7), none, none, none, none, none, none], [.ref x0], (mk B), B.kc, B.kn)) rfl ?_
      obtain ⟨v22, h23, hr⟩ := bd_some hr
      refine x_gR rfl rfl h23 ?_
      refine x_b 1 (S2 := (164, [some (.ref x0), some (.ref x1), none, none, none, some (.int x5), some (.int x6), some (.int x7), none, none, none, none, none, none], [.int x5, .ref v22], (mk B), B.kc, B.kn)) rfl ?_
      obtain ⟨v24, h25, hr⟩ := bd_some hr
      refine x_aR rfl rfl h25 ?_
      refine x_b 1 (S2 := (167, [some (.ref x0), some (.ref x1), none, none, none, some (.int x5), some (.int x6), some (.int x7), none, none, none, none, none, none], [.int x6, .ref v24], (mk B), B.kc, B.kn)) rfl ?_
      obtain ⟨v26, h27, hr⟩ := bd_some hr
      refine x_aB rfl rfl h27 ?_
      rcases ite_some hr with ⟨h28, hr⟩ | ⟨h28, hr⟩
      · refine x_zt rfl rfl (decide_eq_true h28) ?_
        refine x_b 3 (S2 := (182, [some (.ref x0), some (.ref x1), none, none, none, some (.int x5), some (.int x6), some (.int x7), none, none, none, none, none, none], [.int x6, .int x5, .ref x0], (mk B), B.kc, B.kn)) rfl ?_
        obtain ⟨uh29, h29, hr⟩ := bd_some hr
        obtain ⟨B31, h30, hr⟩ := bd_some hr
        refine x_cW (m_304 h30) rfl rfl rfl rfl (am_recv_c h29 (.inl rfl)) (by omega) ?_
        refine x_b 1 (S2 := (186, [some (.ref x0), some (.ref x1), none, none, none, some (.int x5), some (.int x6), some (.int x7), none, none, none, none, none, none], [.ref x0], (mk B31), B31.kc, B31.kn)) rfl ?_
        obtain ⟨uh32, h32, hr⟩ := bd_some hr
        obtain ⟨v34, h33, hr⟩ := bd_some hr
        refine x_cW (m_305 h33) rfl rfl rfl rfl (am_recv_c h32 (.inl rfl)) (by omega) ?_
        cases hr
        rw [kr]
        exact x_ret rfl rfl am_ret_i
      · refine x_zf rfl rfl (decide_eq_false h28) ?_
        refine x_b 2 (S2 := (173, [some (.ref x0), some (.ref x1), none, none, none, some (.int x5), some (.int x6), some (.int x7), none, none, none, none, none, none], [.int 1, .ref x1], (mk B), B.kc, B.kn)) rfl ?_
        obtain ⟨uh35, h35, hr⟩ := bd_some hr
        obtain ⟨⟨v37, B38⟩, h36, hr⟩ := bd_some hr
        refine x_cW (m_301 h36) rfl rfl rfl rfl (am_recv_c h35 (.inl rfl)) (by omega) ?_
        cases hr
        rw [kr]
        exact x_ret rfl rfl am_ret_i
    · refine x_cf rfl rfl (decide_eq_false h21) ?_
      refine x_b 1 (S2 := (157, [some (.ref x0), some (.ref x1), none, none, none, some (.int x5), some (.int x6), some (.int x7), none, none, none, none, none, none], [.int (3294967294 : Int32)], (mk B), B.kc, B.kn)) rfl ?_
      cases hr
      rw [kr]
      exact x_ret rfl rfl am_ret_i
  · refine x_zf rfl rfl (decide_eq_false h20) ?_
    refine x_b 1 (S2 := (147, [some (.ref x0), some (.ref x1), none, none, none, some (.int x5), some (.int x6), some (.int x7), none, none, none, none, none, none], [.int (3294967295 : Int32)], (mk B), B.kc, B.kn)) rfl ?_
    cases hr
    rw [kr]
    exact x_ret rfl rfl am_ret_i
def J_385_0_j254 (B : Wd) (t0 : Int32) : Option (Int32 × Wd) :=
  some (t0, B)
set_option maxRecDepth 200000 in
theorem j_385_0_j254 {d : Nat} (hd : 68 ≤ d) {scr : ASc} {res : ARe} {B : Wd} {t0 : Int32} {o : Int32 × Wd} (hr : J_385_0_j254 B t0 = some o) (kr : res = (.inl (some (.int o.1)), mk o.2, Wd.kc o.2, Wd.kn o.2)) : Ex d am_M385 scr (254, [none, none, none, none, none, none, none, none, none, none, none, none, none, none], [.int t0], (mk B), B.kc, B.kn) res := by
  delta J_385_0_j254 at hr
  cases hr
  rw [kr]
  exact x_ret rfl rfl am_ret_i
def J_385_0_j190 (B : Wd) (x0 : Nat) (x1 : Nat) (x5 : Int32) (x6 : Int32) (x7 : Int32) : Option (Int32 × Wd) :=
  if ¬ x7 = 0 then
    if ¬ x5 = x6 then
      (B.gR x0 7 1).bind fun v43 =>
      (B.aR v43 x5).bind fun v45 =>
      (B.aB v45 x6).bind fun v47 =>
      if ¬ v47 = 0 then
        (B.rc x0 7).bind fun _ =>
        (F_304 B x0 x5 x6).bind fun B52 =>
        (B52.rc x0 7).bind fun _ =>
        (F_307 B52 x0).bind fun (v55, B56) =>
        if v55 = 0 then
          (B56.rc x1 6).bind fun _ =>
          (F_301 B56 x1 3).bind fun (v60, B61) =>
          J_385_0_j254 B61 v60
        else
          (B56.rc x0 7).bind fun _ =>
          (F_305 B56 x0).bind fun v64 =>
          J_385_0_j254 B56 v64
      else
        (B.rc x1 6).bind fun _ =>
        (F_301 B x1 2).bind fun (v67, B68) =>
        some (v67, B68)
    else
      some ((3294967294 : Int32), B)
  else
    some ((3294967295 : Int32), B)
set_option maxRecDepth 200000 in
theorem j_385_0_j190 {d : Nat} (hd : 68 ≤ d) {scr : ASc} {res : ARe} {B : Wd} {x0 : Nat} {x1 : Nat} {x5 : Int32} {x6 : Int32} {x7 : Int32} {o : Int32 × Wd} (hr : J_385_0_j190 B x0 x1 x5 x6 x7 = some o) (kr : res = (.inl (some (.int o.1)), mk o.2, Wd.kc o.2, Wd.kn o.2)) : Ex d am_M385 scr (190, [some (.ref x0), some (.ref x1), none, none, none, some (.int x5), some (.int x6), some (.int x7), none, none, none, none, none, none], [], (mk B), B.kc, B.kn) res := by
  delta J_385_0_j190 at hr
  refine x_b 1 (S2 := (192, [some (.ref x0), some (.ref x1), none, none, none, some (.int x5), some (.int x6), some (.int x7), none, none, none, none, none, none], [.int x7], (mk B), B.kc, B.kn)) rfl ?_
  rcases ite_some hr with ⟨h41, hr⟩ | ⟨h41, hr⟩
  · refine x_zt rfl rfl (decide_eq_true h41) ?_
    refine x_b 2 (S2 := (202, [some (.ref x0), some (.ref x1), none, none, none, some (.int x5), some (.int x6), some (.int x7), none, none, none, none, none, none], [.int x6, .int x5], (mk B), B.kc, B.kn)) rfl ?_
    rcases ite_some hr with ⟨h42, hr⟩ | ⟨h42, hr⟩
    · refine x_ct rfl rfl (decide_eq_true h42) ?_
      refine x_b 1 (S2 := (209, [some (.ref x0), some (.ref x1), none, none, none, some (.int x5), some (.int x6), some (.int x7), none, none, none, none, none, none], [.ref x0], (mk B), B.kc, B.kn)) rfl ?_
      obtain ⟨v43, h44, hr⟩ := bd_some hr
      refine x_gR rfl rfl h44 ?_
      refine x_b 1 (S2 := (214, [some (.ref x0), some (.ref x1), none, none, none, some (.int x5), some (.int x6), some (.int x7), none, none, none, none, none, none], [.int x5, .ref v43], (mk B), B.kc, B.kn)) rfl ?_
      obtain ⟨v45, h46, hr⟩ := bd_some hr
      refine x_aR rfl rfl h46 ?_
      refine x_b 1 (S2 := (217, [some (.ref x0), some (.ref x1), none, none, none, some (.int x5), some (.int x6), some (.int x7), none, none, none, none, none, none], [.int x6, .ref v45], (mk B), B.kc, B.kn)) rfl ?_
      obtain ⟨v47, h48, hr⟩ := bd_some hr
      refine x_aB rfl rfl h48 ?_
      rcases ite_some hr with ⟨h49, hr⟩ | ⟨h49, hr⟩
      · refine x_zt rfl rfl (decide_eq_true h49) ?_
        refine x_b 3 (S2 := (232, [some (.ref x0), some (.ref x1), none, none, none, some (.int x5), some (.int x6), some (.int x7), none, none, none, none, none, none], [.int x6, .int x5, .ref x0], (mk B), B.kc, B.kn)) rfl ?_
        obtain ⟨uh50, h50, hr⟩ := bd_some hr
        obtain ⟨B52, h51, hr⟩ := bd_some hr
        refine x_cW (m_304 h51) rfl rfl rfl rfl (am_recv_c h50 (.inl rfl)) (by omega) ?_
        refine x_b 1 (S2 := (236, [some (.ref x0), some (.ref x1), none, none, none, some (.int x5), some (.int x6), some (.int x7), none, none, none, none, none, none], [.ref x0], (mk B52), B52.kc, B52.kn)) rfl ?_
        obtain ⟨uh53, h53, hr⟩ := bd_some hr
        obtain ⟨⟨v55, B56⟩, h54, hr⟩ := bd_some hr
        refine x_cW (m_307 h54) rfl rfl rfl rfl (am_recv_c h53 (.inl rfl)) (by omega) ?_
        rcases ite_some hr with ⟨h57, hr⟩ | ⟨h57, hr⟩
        · refine x_zt rfl rfl (decide_eq_true h57) ?_
          refine x_b 2 (S2 := (251, [some (.ref x0), some (.ref x1), none, none, none, some (.int x5), some (.int x6), some (.int x7), none, none, none, none, none, none], [.int 3, .ref x1], (mk B56), B56.kc, B56.kn)) rfl ?_
          obtain ⟨uh58, h58, hr⟩ := bd_some hr
          obtain ⟨⟨v60, B61⟩, h59, hr⟩ := bd_some hr
          refine x_cW (m_301 h59) rfl rfl rfl rfl (am_recv_c h58 (.inl rfl)) (by omega) ?_
          refine x_fg (Lq.n (Lq.n (Lq.s (Lq.s (Lq.s (Lq.n (Lq.n (Lq.n (Lq.s (Lq.s (Lq.s (Lq.s (Lq.s (Lq.s Lq.nil)))))))))))))) ?_
          exact j_385_0_j254 hd hr kr
        · refine x_zf rfl rfl (decide_eq_false h57) ?_
          refine x_b 1 (S2 := (243, [some (.ref x0), some (.ref x1), none, none, none, some (.int x5), some (.int x6), some (.int x7), none, none, none, none, none, none], [.ref x0], (mk B56), B56.kc, B56.kn)) rfl ?_
          obtain ⟨uh62, h62, hr⟩ := bd_some hr
          obtain ⟨v64, h63, hr⟩ := bd_some hr
          refine x_cW (m_305 h63) rfl rfl rfl rfl (am_recv_c h62 (.inl rfl)) (by omega) ?_
          refine x_b 1 (S2 := (254, [some (.ref x0), some (.ref x1), none, none, none, some (.int x5), some (.int x6), some (.int x7), none, none, none, none, none, none], [.int v64], (mk B56), B56.kc, B56.kn)) rfl ?_
          refine x_fg (Lq.n (Lq.n (Lq.s (Lq.s (Lq.s (Lq.n (Lq.n (Lq.n (Lq.s (Lq.s (Lq.s (Lq.s (Lq.s (Lq.s Lq.nil)))))))))))))) ?_
          exact j_385_0_j254 hd hr kr
      · refine x_zf rfl rfl (decide_eq_false h49) ?_
        refine x_b 2 (S2 := (223, [some (.ref x0), some (.ref x1), none, none, none, some (.int x5), some (.int x6), some (.int x7), none, none, none, none, none, none], [.int 2, .ref x1], (mk B), B.kc, B.kn)) rfl ?_
        obtain ⟨uh65, h65, hr⟩ := bd_some hr
        obtain ⟨⟨v67, B68⟩, h66, hr⟩ := bd_some hr
        refine x_cW (m_301 h66) rfl rfl rfl rfl (am_recv_c h65 (.inl rfl)) (by omega) ?_
        cases hr
        rw [kr]
        exact x_ret rfl rfl am_ret_i
    · refine x_cf rfl rfl (decide_eq_false h42) ?_
      refine x_b 1 (S2 := (207, [some (.ref x0), some (.ref x1), none, none, none, some (.int x5), some (.int x6), some (.int x7), none, none, none, none, none, none], [.int (3294967294 : Int32)], (mk B), B.kc, B.kn)) rfl ?_
      cases hr
      rw [kr]
      exact x_ret rfl rfl am_ret_i
  · refine x_zf rfl rfl (decide_eq_false h41) ?_
    refine x_b 1 (S2 := (197, [some (.ref x0), some (.ref x1), none, none, none, some (.int x5), some (.int x6), some (.int x7), none, none, none, none, none, none], [.int (3294967295 : Int32)], (mk B), B.kc, B.kn)) rfl ?_
    cases hr
    rw [kr]
    exact x_ret rfl rfl am_ret_i
def J_385_0_j315 (B : Wd) : Option (Int32 × Wd) :=
  some ((3294967294 : Int32), B)
set_option maxRecDepth 200000 in
theorem j_385_0_j315 {d : Nat} (hd : 68 ≤ d) {scr : ASc} {res : ARe} {B : Wd} {o : Int32 × Wd} (hr : J_385_0_j315 B = some o) (kr : res = (.inl (some (.int o.1)), mk o.2, Wd.kc o.2, Wd.kn o.2)) : Ex d am_M385 scr (315, [none, none, none, none, none, none, none, none, none, none, none, none, none, none], [], (mk B), B.kc, B.kn) res := by
  delta J_385_0_j315 at hr
  refine x_b 1 (S2 := (317, [none, none, none, none, none, none, none, none, none, none, none, none, none, none], [.int (3294967294 : Int32)], (mk B), B.kc, B.kn)) rfl ?_
  cases hr
  rw [kr]
  exact x_ret rfl rfl am_ret_i
def J_385_0_j271 (B : Wd) (x0 : Nat) (x5 : Int32) (t0 : Int32) (t1 : Int32) (t2 : Int32) : Option (Int32 × Wd) :=
  (F_383 B t2 t1 t0).bind fun v73 =>
  (B.gI x0 7 0).bind fun v74 =>
  if ¬ x5 = v74 then
    (F_384 B v73 1 99).bind fun v78 =>
    if v78 = 0 then
      J_385_0_j315 B
    else
      (B.gR x0 7 2).bind fun v80 =>
      (B.aI v80 x5).bind fun v82 =>
      if (v82 + v73) ≤ 999 then
        (B.gR x0 7 2).bind fun v85 =>
        (B.aI v85 x5).bind fun v87 =>
        (B.sI v85 x5 (v87 + v73)).bind fun B89 =>
        (B89.gR x0 7 2).bind fun v91 =>
        (B89.aI v91 x5).bind fun v93 =>
        some (v93, B89)
      else
        J_385_0_j315 B
  else
    some ((3294967295 : Int32), B)
set_option maxRecDepth 200000 in
theorem j_385_0_j271 {d : Nat} (hd : 68 ≤ d) {scr : ASc} {res : ARe} {B : Wd} {x0 : Nat} {x5 : Int32} {t0 : Int32} {t1 : Int32} {t2 : Int32} {o : Int32 × Wd} (hr : J_385_0_j271 B x0 x5 t0 t1 t2 = some o) (kr : res = (.inl (some (.int o.1)), mk o.2, Wd.kc o.2, Wd.kn o.2)) : Ex d am_M385 scr (271, [some (.ref x0), none, none, none, none, some (.int x5), none, none, none, none, none, none, none, none], [.int t0, .int t1, .int t2], (mk B), B.kc, B.kn) res := by
  delta J_385_0_j271 at hr
  obtain ⟨v73, h72, hr⟩ := bd_some hr
  refine x_cW (m_383 h72) rfl rfl rfl rfl rfl (by omega) ?_
  refine x_b 3 (S2 := (279, [some (.ref x0), none, none, none, none, some (.int x5), none, none, none, some (.int v73), none, none, none, none], [.ref x0, .int x5], (mk B), B.kc, B.kn)) rfl ?_
  obtain ⟨v74, h75, hr⟩ := bd_some hr
  refine x_gI rfl rfl h75 ?_
  rcases ite_some hr with ⟨h76, hr⟩ | ⟨h76, hr⟩
  · refine x_ct rfl rfl (decide_eq_true h76) ?_
    refine x_b 3 (S2 := (293, [some (.ref x0), none, none, none, none, some (.int x5), none, none, none, some (.int v73), none, none, none, none], [.int 99, .int 1, .int v73], (mk B), B.kc, B.kn)) rfl ?_
    obtain ⟨v78, h77, hr⟩ := bd_some hr
    refine x_cW (m_384 h77) rfl rfl rfl rfl rfl (by omega) ?_
    rcases ite_some hr with ⟨h79, hr⟩ | ⟨h79, hr⟩
    · refine x_zt rfl rfl (decide_eq_true h79) ?_
      refine x_fg (Lq.n (Lq.s (Lq.s (Lq.s (Lq.s (Lq.n (Lq.s (Lq.s (Lq.s (Lq.n (Lq.s (Lq.s (Lq.s (Lq.s Lq.nil)))))))))))))) ?_
      exact j_385_0_j315 hd hr kr
    · refine x_zf rfl rfl (decide_eq_false h79) ?_
      refine x_b 1 (S2 := (300, [some (.ref x0), none, none, none, none, some (.int x5), none, none, none, some (.int v73), none, none, none, none], [.ref x0], (mk B), B.kc, B.kn)) rfl ?_
      obtain ⟨v80, h81, hr⟩ := bd_some hr
      refine x_gR rfl rfl h81 ?_
      refine x_b 1 (S2 := (305, [some (.ref x0), none, none, none, none, some (.int x5), none, none, none, some (.int v73), none, none, none, none], [.int x5, .ref v80], (mk B), B.kc, B.kn)) rfl ?_
      obtain ⟨v82, h83, hr⟩ := bd_some hr
      refine x_aI rfl rfl h83 ?_
      refine x_b 3 (S2 := (312, [some (.ref x0), none, none, none, none, some (.int x5), none, none, none, some (.int v73), none, none, none, none], [.int 999, .int (v82 + v73)], (mk B), B.kc, B.kn)) rfl ?_
      rcases ite_some hr with ⟨h84, hr⟩ | ⟨h84, hr⟩
      · refine x_ct rfl rfl (decide_eq_true h84) ?_
        refine x_b 1 (S2 := (319, [some (.ref x0), none, none, none, none, some (.int x5), none, none, none, some (.int v73), none, none, none, none], [.ref x0], (mk B), B.kc, B.kn)) rfl ?_
        obtain ⟨v85, h86, hr⟩ := bd_some hr
        refine x_gR rfl rfl h86 ?_
        refine x_b 2 (S2 := (325, [some (.ref x0), none, none, none, none, some (.int x5), none, none, none, some (.int v73), none, none, none, none], [.int x5, .ref v85, .int x5, .ref v85], (mk B), B.kc, B.kn)) rfl ?_
        obtain ⟨v87, h88, hr⟩ := bd_some hr
        refine x_aI rfl rfl h88 ?_
        refine x_b 2 (S2 := (329, [some (.ref x0), none, none, none, none, some (.int x5), none, none, none, some (.int v73), none, none, none, none], [.int (v87 + v73), .int x5, .ref v85], (mk B), B.kc, B.kn)) rfl ?_
        obtain ⟨B89, h90, hr⟩ := bd_some hr
        refine x_sI rfl rfl h90 ?_
        refine x_b 1 (S2 := (331, [some (.ref x0), none, none, none, none, some (.int x5), none, none, none, some (.int v73), none, none, none, none], [.ref x0], (mk B89), B89.kc, B89.kn)) rfl ?_
        obtain ⟨v91, h92, hr⟩ := bd_some hr
        refine x_gR rfl rfl h92 ?_
        refine x_b 1 (S2 := (336, [some (.ref x0), none, none, none, none, some (.int x5), none, none, none, some (.int v73), none, none, none, none], [.int x5, .ref v91], (mk B89), B89.kc, B89.kn)) rfl ?_
        obtain ⟨v93, h94, hr⟩ := bd_some hr
        refine x_aI rfl rfl h94 ?_
        cases hr
        rw [kr]
        exact x_ret rfl rfl am_ret_i
      · refine x_cf rfl rfl (decide_eq_false h84) ?_
        refine x_fg (Lq.n (Lq.s (Lq.s (Lq.s (Lq.s (Lq.n (Lq.s (Lq.s (Lq.s (Lq.n (Lq.s (Lq.s (Lq.s (Lq.s Lq.nil)))))))))))))) ?_
        exact j_385_0_j315 hd hr kr
  · refine x_cf rfl rfl (decide_eq_false h76) ?_
    refine x_b 1 (S2 := (287, [some (.ref x0), none, none, none, none, some (.int x5), none, none, none, some (.int v73), none, none, none, none], [.int (3294967295 : Int32)], (mk B), B.kc, B.kn)) rfl ?_
    cases hr
    rw [kr]
    exact x_ret rfl rfl am_ret_i
def J_385_0_j255 (B : Wd) (x0 : Nat) (x4 : Int32) (x5 : Int32) : Option (Int32 × Wd) :=
  if ¬ (x4 - x4 / 4 * 4) = 0 then
    J_385_0_j271 B x0 x5 5 1 x4
  else
    J_385_0_j271 B x0 x5 99 1 x4
set_option maxRecDepth 200000 in
theorem j_385_0_j255 {d : Nat} (hd : 68 ≤ d) {scr : ASc} {res : ARe} {B : Wd} {x0 : Nat} {x4 : Int32} {x5 : Int32} {o : Int32 × Wd} (hr : J_385_0_j255 B x0 x4 x5 = some o) (kr : res = (.inl (some (.int o.1)), mk o.2, Wd.kc o.2, Wd.kn o.2)) : Ex d am_M385 scr (255, [some (.ref x0), none, none, none, some (.int x4), some (.int x5), none, none, none, none, none, none, none, none], [], (mk B), B.kc, B.kn) res := by
  delta J_385_0_j255 at hr
  refine x_b 4 (S2 := (261, [some (.ref x0), none, none, none, some (.int x4), some (.int x5), none, none, none, none, none, none, none, none], [.int 4, .int x4, .int 1, .int x4], (mk B), B.kc, B.kn)) rfl ?_
  refine x_rem rfl rfl (by decide) ?_
  rcases ite_some hr with ⟨h71, hr⟩ | ⟨h71, hr⟩
  · refine x_zt rfl rfl (decide_eq_true h71) ?_
    refine x_b 1 (S2 := (271, [some (.ref x0), none, none, none, some (.int x4), some (.int x5), none, none, none, none, none, none, none, none], [.int 5, .int 1, .int x4], (mk B), B.kc, B.kn)) rfl ?_
    refine x_fg (Lq.s (Lq.s (Lq.s (Lq.s (Lq.n (Lq.s (Lq.s (Lq.s (Lq.s (Lq.s (Lq.s (Lq.s (Lq.s (Lq.s Lq.nil)))))))))))))) ?_
    exact j_385_0_j271 hd hr kr
  · refine x_zf rfl rfl (decide_eq_false h71) ?_
    refine x_b 2 (S2 := (271, [some (.ref x0), none, none, none, some (.int x4), some (.int x5), none, none, none, none, none, none, none, none], [.int 99, .int 1, .int x4], (mk B), B.kc, B.kn)) rfl ?_
    refine x_fg (Lq.s (Lq.s (Lq.s (Lq.s (Lq.n (Lq.s (Lq.s (Lq.s (Lq.s (Lq.s (Lq.s (Lq.s (Lq.s (Lq.s Lq.nil)))))))))))))) ?_
    exact j_385_0_j271 hd hr kr
def J_385_0_j354 (B : Wd) (x0 : Nat) (x1 : Nat) (x5 : Int32) (t0 : Int32) (t1 : Int32) (t2 : Int32) : Option (Int32 × Wd) :=
  (F_383 B t2 t1 t0).bind fun v100 =>
  (B.gI x0 7 0).bind fun v101 =>
  if ¬ x5 = v101 then
    (F_384 B v100 1 99).bind fun v105 =>
    if ¬ v105 = 0 then
      (B.gR x0 7 2).bind fun v107 =>
      (B.aI v107 x5).bind fun v109 =>
      if v100 ≤ v109 then
        (B.gR x0 7 2).bind fun v112 =>
        (B.aI v112 x5).bind fun v114 =>
        (B.sI v112 x5 (v114 - v100)).bind fun B116 =>
        (B116.gR x0 7 2).bind fun v118 =>
        (B116.aI v118 x5).bind fun v120 =>
        some (v120, B116)
      else
        (B.rc x1 6).bind fun _ =>
        (F_301 B x1 5).bind fun (v124, B125) =>
        some (v124, B125)
    else
      some ((3294967294 : Int32), B)
  else
    some ((3294967295 : Int32), B)
set_option maxRecDepth 200000 in
theorem j_385_0_j354 {d : Nat} (hd : 68 ≤ d) {scr : ASc} {res : ARe} {B : Wd} {x0 : Nat} {x1 : Nat} {x5 : Int32} {t0 : Int32} {t1 : Int32} {t2 : Int32} {o : Int32 × Wd} (hr : J_385_0_j354 B x0 x1 x5 t0 t1 t2 = some o) (kr : res = (.inl (some (.int o.1)), mk o.2, Wd.kc o.2, Wd.kn o.2)) : Ex d am_M385 scr (354, [some (.ref x0), some (.ref x1), none, none, none, some (.int x5), none, none, none, none, none, none, none, none], [.int t0, .int t1, .int t2], (mk B), B.kc, B.kn) res := by
  delta J_385_0_j354 at hr
  obtain ⟨v100, h99, hr⟩ := bd_some hr
  refine x_cW (m_383 h99) rfl rfl rfl rfl rfl (by omega) ?_
  refine x_b 3 (S2 := (362, [some (.ref x0), some (.ref x1), none, none, none, some (.int x5), none, none, none, some (.int v100), none, none, none, none], [.ref x0, .int x5], (mk B), B.kc, B.kn)) rfl ?_
  obtain ⟨v101, h102, hr⟩ := bd_some hr
  refine x_gI rfl rfl h102 ?_
  rcases ite_some hr with ⟨h103, hr⟩ | ⟨h103, hr⟩
  · refine x_ct rfl rfl (decide_eq_true h103) ?_
    refine x_b 3 (S2 := (376, [some (.ref x0), some (.ref x1), none, none, none, some (.int x5), none, none, none, some (.int v100), none, none, none, none], [.int 99, .int 1, .int v100], (mk B), B.kc, B.kn)) rfl ?_
    obtain ⟨v105, h104, hr⟩ := bd_some hr
    refine x_cW (m_384 h104) rfl rfl rfl rfl rfl (by omega) ?_
    rcases ite_some hr with ⟨h106, hr⟩ | ⟨h106, hr⟩
    · refine x_zt rfl rfl (decide_eq_true h106) ?_
      refine x_b 1 (S2 := (386, [some (.ref x0), some (.ref x1), none, none, none, some (.int x5), none, none, none, some (.int v100), none, none, none, none], [.ref x0], (mk B), B.kc, B.kn)) rfl ?_
      obtain ⟨v107, h108, hr⟩ := bd_some hr
      refine x_gR rfl rfl h108 ?_
      refine x_b 1 (S2 := (391, [some (.ref x0), some (.ref x1), none, none, none, some (.int x5), none, none, none, some (.int v100), none, none, none, none], [.int x5, .ref v107], (mk B), B.kc, B.kn)) rfl ?_
      obtain ⟨v109, h110, hr⟩ := bd_some hr
      refine x_aI rfl rfl h110 ?_
      refine x_b 1 (S2 := (394, [some (.ref x0), some (.ref x1), none, none, none, some (.int x5), none, none, none, some (.int v100), none, none, none, none], [.int v100, .int v109], (mk B), B.kc, B.kn)) rfl ?_
      rcases ite_some hr with ⟨h111, hr⟩ | ⟨h111, hr⟩
      · refine x_ct rfl rfl (decide_eq_true h111) ?_
        refine x_b 1 (S2 := (404, [some (.ref x0), some (.ref x1), none, none, none, some (.int x5), none, none, none, some (.int v100), none, none, none, none], [.ref x0], (mk B), B.kc, B.kn)) rfl ?_
        obtain ⟨v112, h113, hr⟩ := bd_some hr
        refine x_gR rfl rfl h113 ?_
        refine x_b 2 (S2 := (410, [some (.ref x0), some (.ref x1), none, none, none, some (.int x5), none, none, none, some (.int v100), none, none, none, none], [.int x5, .ref v112, .int x5, .ref v112], (mk B), B.kc, B.kn)) rfl ?_
        obtain ⟨v114, h115, hr⟩ := bd_some hr
        refine x_aI rfl rfl h115 ?_
        refine x_b 2 (S2 := (414, [some (.ref x0), some (.ref x1), none, none, none, some (.int x5), none, none, none, some (.int v100), none, none, none, none], [.int (v114 - v100), .int x5, .ref v112], (mk B), B.kc, B.kn)) rfl ?_
        obtain ⟨B116, h117, hr⟩ := bd_some hr
        refine x_sI rfl rfl h117 ?_
        refine x_b 1 (S2 := (416, [some (.ref x0), some (.ref x1), none, none, none, some (.int x5), none, none, none, some (.int v100), none, none, none, none], [.ref x0], (mk B116), B116.kc, B116.kn)) rfl ?_
        obtain ⟨v118, h119, hr⟩ := bd_some hr
        refine x_gR rfl rfl h119 ?_
        refine x_b 1 (S2 := (421, [some (.ref x0), some (.ref x1), none, none, none, some (.int x5), none, none, none, some (.int v100), none, none, none, none], [.int x5, .ref v118], (mk B116), B116.kc, B116.kn)) rfl ?_
        obtain ⟨v120, h121, hr⟩ := bd_some hr
        refine x_aI rfl rfl h121 ?_
        cases hr
        rw [kr]
        exact x_ret rfl rfl am_ret_i
      · refine x_cf rfl rfl (decide_eq_false h111) ?_
        refine x_b 2 (S2 := (399, [some (.ref x0), some (.ref x1), none, none, none, some (.int x5), none, none, none, some (.int v100), none, none, none, none], [.int 5, .ref x1], (mk B), B.kc, B.kn)) rfl ?_
        obtain ⟨uh122, h122, hr⟩ := bd_some hr
        obtain ⟨⟨v124, B125⟩, h123, hr⟩ := bd_some hr
        refine x_cW (m_301 h123) rfl rfl rfl rfl (am_recv_c h122 (.inl rfl)) (by omega) ?_
        cases hr
        rw [kr]
        exact x_ret rfl rfl am_ret_i
    · refine x_zf rfl rfl (decide_eq_false h106) ?_
      refine x_b 1 (S2 := (384, [some (.ref x0), some (.ref x1), none, none, none, some (.int x5), none, none, none, some (.int v100), none, none, none, none], [.int (3294967294 : Int32)], (mk B), B.kc, B.kn)) rfl ?_
      cases hr
      rw [kr]
      exact x_ret rfl rfl am_ret_i
  · refine x_cf rfl rfl (decide_eq_false h103) ?_
    refine x_b 1 (S2 := (370, [some (.ref x0), some (.ref x1), none, none, none, some (.int x5), none, none, none, some (.int v100), none, none, none, none], [.int (3294967295 : Int32)], (mk B), B.kc, B.kn)) rfl ?_
    cases hr
    rw [kr]
    exact x_ret rfl rfl am_ret_i
def J_385_0_j338 (B : Wd) (x0 : Nat) (x1 : Nat) (x4 : Int32) (x5 : Int32) : Option (Int32 × Wd) :=
  if ¬ (x4 - x4 / 4 * 4) = 0 then
    J_385_0_j354 B x0 x1 x5 3 1 x4
  else
    J_385_0_j354 B x0 x1 x5 99 1 x4
set_option maxRecDepth 200000 in
theorem j_385_0_j338 {d : Nat} (hd : 68 ≤ d) {scr : ASc} {res : ARe} {B : Wd} {x0 : Nat} {x1 : Nat} {x4 : Int32} {x5 : Int32} {o : Int32 × Wd} (hr : J_385_0_j338 B x0 x1 x4 x5 = some o) (kr : res = (.inl (some (.int o.1)), mk o.2, Wd.kc o.2, Wd.kn o.2)) : Ex d am_M385 scr (338, [some (.ref x0), some (.ref x1), none, none, some (.int x4), some (.int x5), none, none, none, none, none, none, none, none], [], (mk B), B.kc, B.kn) res := by
  delta J_385_0_j338 at hr
  refine x_b 4 (S2 := (344, [some (.ref x0), some (.ref x1), none, none, some (.int x4), some (.int x5), none, none, none, none, none, none, none, none], [.int 4, .int x4, .int 1, .int x4], (mk B), B.kc, B.kn)) rfl ?_
  refine x_rem rfl rfl (by decide) ?_
  rcases ite_some hr with ⟨h98, hr⟩ | ⟨h98, hr⟩
  · refine x_zt rfl rfl (decide_eq_true h98) ?_
    refine x_b 1 (S2 := (354, [some (.ref x0), some (.ref x1), none, none, some (.int x4), some (.int x5), none, none, none, none, none, none, none, none], [.int 3, .int 1, .int x4], (mk B), B.kc, B.kn)) rfl ?_
    refine x_fg (Lq.s (Lq.s (Lq.s (Lq.s (Lq.n (Lq.s (Lq.s (Lq.s (Lq.s (Lq.s (Lq.s (Lq.s (Lq.s (Lq.s Lq.nil)))))))))))))) ?_
    exact j_385_0_j354 hd hr kr
  · refine x_zf rfl rfl (decide_eq_false h98) ?_
    refine x_b 2 (S2 := (354, [some (.ref x0), some (.ref x1), none, none, some (.int x4), some (.int x5), none, none, none, none, none, none, none, none], [.int 99, .int 1, .int x4], (mk B), B.kc, B.kn)) rfl ?_
    refine x_fg (Lq.s (Lq.s (Lq.s (Lq.s (Lq.n (Lq.s (Lq.s (Lq.s (Lq.s (Lq.s (Lq.s (Lq.s (Lq.s (Lq.s Lq.nil)))))))))))))) ?_
    exact j_385_0_j354 hd hr kr
def J_385_0_j423 (B : Wd) (x0 : Nat) (x1 : Nat) (x5 : Int32) (x6 : Int32) (x7 : Int32) : Option (Int32 × Wd) :=
  if ¬ x7 = 0 then
    (B.gR x0 7 1).bind fun v128 =>
    (B.aR v128 x5).bind fun v130 =>
    (B.aB v130 x6).bind fun v132 =>
    if ¬ v132 = 0 then
      (B.gR x0 7 2).bind fun v135 =>
      (B.aI v135 x5).bind fun v137 =>
      if 2 ≤ v137 then
        (B.gR x0 7 2).bind fun v140 =>
        (B.aI v140 x6).bind fun v142 =>
        if ¬ v142 = 999 then
          (B.rc x0 7).bind fun _ =>
          (F_315 B x0 x5 x6).bind fun B147 =>
          (B147.gR x0 7 2).bind fun v148 =>
          (B147.aI v148 x6).bind fun v150 =>
          some (v150, B147)
        else
          (B.rc x1 6).bind fun _ =>
          (F_301 B x1 6).bind fun (v154, B155) =>
          some (v154, B155)
      else
        (B.rc x1 6).bind fun _ =>
        (F_301 B x1 5).bind fun (v158, B159) =>
        some (v158, B159)
    else
      (B.rc x1 6).bind fun _ =>
      (F_301 B x1 4).bind fun (v162, B163) =>
      some (v162, B163)
  else
    some ((3294967295 : Int32), B)
set_option maxRecDepth 200000 in
theorem j_385_0_j423 {d : Nat} (hd : 68 ≤ d) {scr : ASc} {res : ARe} {B : Wd} {x0 : Nat} {x1 : Nat} {x5 : Int32} {x6 : Int32} {x7 : Int32} {o : Int32 × Wd} (hr : J_385_0_j423 B x0 x1 x5 x6 x7 = some o) (kr : res = (.inl (some (.int o.1)), mk o.2, Wd.kc o.2, Wd.kn o.2)) : Ex d am_M385 scr (423, [some (.ref x0), some (.ref x1), none, none, none, some (.int x5), some (.int x6), some (.int x7), none, none, none, none, none, none], [], (mk B), B.kc, B.kn) res := by
  delta J_385_0_j423 at hr
  refine x_b 1 (S2 := (425, [some (.ref x0), some (.ref x1), none, none, none, some (.int x5), some (.int x6), some (.int x7), none, none, none, none, none, none], [.int x7], (mk B), B.kc, B.kn)) rfl ?_
  rcases ite_some hr with ⟨h127, hr⟩ | ⟨h127, hr⟩
  · refine x_zt rfl rfl (decide_eq_true h127) ?_
    refine x_b 1 (S2 := (432, [some (.ref x0), some (.ref x1), none, none, none, some (.int x5), some (.int x6), some (.int x7), none, none, none, none, none, none], [.ref x0], (mk B), B.kc, B.kn)) rfl ?_
    obtain ⟨v128, h129, hr⟩ := bd_some hr
    refine x_gR rfl rfl h129 ?_
    refine x_b 1 (S2 := (437, [some (.ref x0), some (.ref x1), none, none, none, some (.int x5), some (.int x6), some (.int x7), none, none, none, none, none, none], [.int x5, .ref v128], (mk B), B.kc, B.kn)) rfl ?_
    obtain ⟨v130, h131, hr⟩ := bd_some hr
    refine x_aR rfl rfl h131 ?_
    refine x_b 1 (S2 := (440, [some (.ref x0), some (.ref x1), none, none, none, some (.int x5), some (.int x6), some (.int x7), none, none, none, none, none, none], [.int x6, .ref v130], (mk B), B.kc, B.kn)) rfl ?_
    obtain ⟨v132, h133, hr⟩ := bd_some hr
    refine x_aB rfl rfl h133 ?_
    rcases ite_some hr with ⟨h134, hr⟩ | ⟨h134, hr⟩
    · refine x_zt rfl rfl (decide_eq_true h134) ?_
      refine x_b 1 (S2 := (451, [some (.ref x0), some (.ref x1), none, none, none, some (.int x5), some (.int x6), some (.int x7), none, none, none, none, none, none], [.ref x0], (mk B), B.kc, B.kn)) rfl ?_
      obtain ⟨v135, h136, hr⟩ := bd_some hr
      refine x_gR rfl rfl h136 ?_
      refine x_b 1 (S2 := (456, [some (.ref x0), some (.ref x1), none, none, none, some (.int x5), some (.int x6), some (.int x7), none, none, none, none, none, none], [.int x5, .ref v135], (mk B), B.kc, B.kn)) rfl ?_
      obtain ⟨v137, h138, hr⟩ := bd_some hr
      refine x_aI rfl rfl h138 ?_
      refine x_b 1 (S2 := (458, [some (.ref x0), some (.ref x1), none, none, none, some (.int x5), some (.int x6), some (.int x7), none, none, none, none, none, none], [.int 2, .int v137], (mk B), B.kc, B.kn)) rfl ?_
      rcases ite_some hr with ⟨h139, hr⟩ | ⟨h139, hr⟩
      · refine x_ct rfl rfl (decide_eq_true h139) ?_
        refine x_b 1 (S2 := (468, [some (.ref x0), some (.ref x1), none, none, none, some (.int x5), some (.int x6), some (.int x7), none, none, none, none, none, none], [.ref x0], (mk B), B.kc, B.kn)) rfl ?_
        obtain ⟨v140, h141, hr⟩ := bd_some hr
        refine x_gR rfl rfl h141 ?_
        refine x_b 1 (S2 := (473, [some (.ref x0), some (.ref x1), none, none, none, some (.int x5), some (.int x6), some (.int x7), none, none, none, none, none, none], [.int x6, .ref v140], (mk B), B.kc, B.kn)) rfl ?_
        obtain ⟨v142, h143, hr⟩ := bd_some hr
        refine x_aI rfl rfl h143 ?_
        refine x_b 1 (S2 := (477, [some (.ref x0), some (.ref x1), none, none, none, some (.int x5), some (.int x6), some (.int x7), none, none, none, none, none, none], [.int 999, .int v142], (mk B), B.kc, B.kn)) rfl ?_
        rcases ite_some hr with ⟨h144, hr⟩ | ⟨h144, hr⟩
        · refine x_ct rfl rfl (decide_eq_true h144) ?_
          refine x_b 3 (S2 := (492, [some (.ref x0), some (.ref x1), none, none, none, some (.int x5), some (.int x6), some (.int x7), none, none, none, none, none, none], [.int x6, .int x5, .ref x0], (mk B), B.kc, B.kn)) rfl ?_
          obtain ⟨uh145, h145, hr⟩ := bd_some hr
          obtain ⟨B147, h146, hr⟩ := bd_some hr
          refine x_cW (m_315 h146) rfl rfl rfl rfl (am_recv_c h145 (.inl rfl)) (by omega) ?_
          refine x_b 1 (S2 := (496, [some (.ref x0), some (.ref x1), none, none, none, some (.int x5), some (.int x6), some (.int x7), none, none, none, none, none, none], [.ref x0], (mk B147), B147.kc, B147.kn)) rfl ?_
          obtain ⟨v148, h149, hr⟩ := bd_some hr
          refine x_gR rfl rfl h149 ?_
          refine x_b 1 (S2 := (501, [some (.ref x0), some (.ref x1), none, none, none, some (.int x5), some (.int x6), some (.int x7), none, none, none, none, none, none], [.int x6, .ref v148], (mk B147), B147.kc, B147.kn)) rfl ?_
          obtain ⟨v150, h151, hr⟩ := bd_some hr
          refine x_aI rfl rfl h151 ?_
          cases hr
          rw [kr]
          exact x_ret rfl rfl am_ret_i
        · refine x_cf rfl rfl (decide_eq_false h144) ?_
          refine x_b 2 (S2 := (483, [some (.ref x0), some (.ref x1), none, none, none, some (.int x5), some (.int x6), some (.int x7), none, none, none, none, none, none], [.int 6, .ref x1], (mk B), B.kc, B.kn)) rfl ?_
          obtain ⟨uh152, h152, hr⟩ := bd_some hr
          obtain ⟨⟨v154, B155⟩, h153, hr⟩ := bd_some hr
          refine x_cW (m_301 h153) rfl rfl rfl rfl (am_recv_c h152 (.inl rfl)) (by omega) ?_
          cases hr
          rw [kr]
          exact x_ret rfl rfl am_ret_i
      · refine x_cf rfl rfl (decide_eq_false h139) ?_
        refine x_b 2 (S2 := (463, [some (.ref x0), some (.ref x1), none, none, none, some (.int x5), some (.int x6), some (.int x7), none, none, none, none, none, none], [.int 5, .ref x1], (mk B), B.kc, B.kn)) rfl ?_
        obtain ⟨uh156, h156, hr⟩ := bd_some hr
        obtain ⟨⟨v158, B159⟩, h157, hr⟩ := bd_some hr
        refine x_cW (m_301 h157) rfl rfl rfl rfl (am_recv_c h156 (.inl rfl)) (by omega) ?_
        cases hr
        rw [kr]
        exact x_ret rfl rfl am_ret_i
    · refine x_zf rfl rfl (decide_eq_false h134) ?_
      refine x_b 2 (S2 := (446, [some (.ref x0), some (.ref x1), none, none, none, some (.int x5), some (.int x6), some (.int x7), none, none, none, none, none, none], [.int 4, .ref x1], (mk B), B.kc, B.kn)) rfl ?_
      obtain ⟨uh160, h160, hr⟩ := bd_some hr
      obtain ⟨⟨v162, B163⟩, h161, hr⟩ := bd_some hr
      refine x_cW (m_301 h161) rfl rfl rfl rfl (am_recv_c h160 (.inl rfl)) (by omega) ?_
      cases hr
      rw [kr]
      exact x_ret rfl rfl am_ret_i
  · refine x_zf rfl rfl (decide_eq_false h127) ?_
    refine x_b 1 (S2 := (430, [some (.ref x0), some (.ref x1), none, none, none, some (.int x5), some (.int x6), some (.int x7), none, none, none, none, none, none], [.int (3294967295 : Int32)], (mk B), B.kc, B.kn)) rfl ?_
    cases hr
    rw [kr]
    exact x_ret rfl rfl am_ret_i
abbrev P_385_537 (x0 : Nat) (x5 : Int32) (x9 : Int32) (s : Wd) : ASt := (537, [some (.ref x0), none, none, none, none, some (.int x5), none, none, none, some (.int x9), none, none, none, none], [], (mk s), Wd.kc s, Wd.kn s)
abbrev PX_385_537 (x0 : Nat) (x5 : Int32) (x9 : Int32) (s : Wd) : ASt := (572, [some (.ref x0), none, none, none, none, none, none, none, none, some (.int x9), none, none, none, none], [], (mk s), Wd.kc s, Wd.kn s)
def G_385_537 (x0 : Nat) (x5 : Int32) (x9 : Int32) (s : Wd) : Option ((Wd) ⊕ (Wd)) := 
  match s with
  | B =>
    (B.gR x0 7 2).bind fun v177 =>
    (B.aI v177 x5).bind fun v179 =>
    if ¬ v179 = 0 then
      some (.inr B)
    else
      (B.rc x0 7).bind fun _ =>
      (F_314 B x0 x5).bind fun (v184, B185) =>
      (B185.rc x0 7).bind fun _ =>
      (F_315 B185 x0 (v184 / 10) (v184 - v184 / 10 * 10)).bind fun B188 =>
      some (.inl B188)
set_option maxRecDepth 200000 in
theorem g_385_537 {d : Nat} (hd : 68 ≤ d) {scr : ASc} {res : ARe} {x0 : Nat} {x5 : Int32} {x9 : Int32} {s : Wd} {o : (Wd) ⊕ (Wd)} (hr : G_385_537 x0 x5 x9 s = some o) (ka : ∀ s, o = .inl s → Ex d am_M385 scr (P_385_537 x0 x5 x9 s) res) (kx : ∀ s, o = .inr s → Ex d am_M385 scr (PX_385_537 x0 x5 x9 s) res) : Ex d am_M385 scr (P_385_537 x0 x5 x9 s) res := by
  delta G_385_537 at hr
  show Ex d am_M385 scr (537, [some (.ref x0), none, none, none, none, some (.int x5), none, none, none, some (.int x9), none, none, none, none], [], (mk s), s.kc, s.kn) res
  refine x_b 1 (S2 := (538, [some (.ref x0), none, none, none, none, some (.int x5), none, none, none, some (.int x9), none, none, none, none], [.ref x0], (mk s), s.kc, s.kn)) rfl ?_
  obtain ⟨v177, h178, hr⟩ := bd_some hr
  refine x_gR rfl rfl h178 ?_
  refine x_b 1 (S2 := (543, [some (.ref x0), none, none, none, none, some (.int x5), none, none, none, some (.int x9), none, none, none, none], [.int x5, .ref v177], (mk s), s.kc, s.kn)) rfl ?_
  obtain ⟨v179, h180, hr⟩ := bd_some hr
  refine x_aI rfl rfl h180 ?_
  rcases ite_some hr with ⟨h181, hr⟩ | ⟨h181, hr⟩
  · refine x_zt rfl rfl (decide_eq_true h181) ?_
    refine x_fg (Lq.s (Lq.s (Lq.s (Lq.s (Lq.s (Lq.n (Lq.s (Lq.s (Lq.s (Lq.s (Lq.s (Lq.s (Lq.s (Lq.s Lq.nil)))))))))))))) ?_
    exact kx s (Option.some.inj hr).symm
  · refine x_zf rfl rfl (decide_eq_false h181) ?_
    refine x_b 2 (S2 := (550, [some (.ref x0), none, none, none, none, some (.int x5), none, none, none, some (.int x9), none, none, none, none], [.int x5, .ref x0], (mk s), s.kc, s.kn)) rfl ?_
    obtain ⟨uh182, h182, hr⟩ := bd_some hr
    obtain ⟨⟨v184, B185⟩, h183, hr⟩ := bd_some hr
    refine x_cW (m_314 h183) rfl rfl rfl rfl (am_recv_c h182 (.inl rfl)) (by omega) ?_
    refine x_b 4 (S2 := (560, [some (.ref x0), none, none, none, none, some (.int x5), none, none, none, some (.int x9), some (.int v184), none, none, none], [.int 10, .int v184, .ref x0], (mk B185), B185.kc, B185.kn)) rfl ?_
    refine x_div rfl rfl (by decide) ?_
    refine x_b 2 (S2 := (565, [some (.ref x0), none, none, none, none, some (.int x5), none, none, none, some (.int x9), some (.int v184), none, none, none], [.int 10, .int v184, .int (v184 / 10), .ref x0], (mk B185), B185.kc, B185.kn)) rfl ?_
    refine x_rem rfl rfl (by decide) ?_
    obtain ⟨uh186, h186, hr⟩ := bd_some hr
    obtain ⟨B188, h187, hr⟩ := bd_some hr
    refine x_cW (m_315 h187) rfl rfl rfl rfl (am_recv_c h186 (.inl rfl)) (by omega) ?_
    refine x_b 1 (S2 := (537, [some (.ref x0), none, none, none, none, some (.int x5), none, none, none, some (.int x9), some (.int v184), none, none, none], [], (mk B188), B188.kc, B188.kn)) rfl ?_
    refine x_fg (Lq.s (Lq.s (Lq.s (Lq.s (Lq.s (Lq.s (Lq.s (Lq.s (Lq.s (Lq.s (Lq.n (Lq.s (Lq.s (Lq.s Lq.nil)))))))))))))) ?_
    exact ka B188 (Option.some.inj hr).symm
def J_385_0_j503 (B : Wd) (x0 : Nat) (x1 : Nat) (x5 : Int32) : Option (Int32 × Wd) :=
  (B.gI x0 7 0).bind fun v167 =>
  if ¬ x5 = v167 then
    (B.rc x0 7).bind fun _ =>
    (F_313 B x0 x5).bind fun (v172, B173) =>
    if ¬ v172 = 0 then
      (B173.gI x0 7 3).bind fun v175 =>
      (lw (G_385_537 x0 x5 v175) 200000 B173).bind fun B190 =>
      (B190.gI x0 7 3).bind fun v192 =>
      some ((v192 - v175), B190)
    else
      (B173.rc x1 6).bind fun _ =>
      (F_301 B173 x1 6).bind fun (v196, B197) =>
      some (v196, B197)
  else
    some ((3294967295 : Int32), B)
set_option maxRecDepth 200000 in
theorem j_385_0_j503 {d : Nat} (hd : 68 ≤ d) {scr : ASc} {res : ARe} {B : Wd} {x0 : Nat} {x1 : Nat} {x5 : Int32} {o : Int32 × Wd} (hr : J_385_0_j503 B x0 x1 x5 = some o) (kr : res = (.inl (some (.int o.1)), mk o.2, Wd.kc o.2, Wd.kn o.2)) : Ex d am_M385 scr (503, [some (.ref x0), some (.ref x1), none, none, none, some (.int x5), none, none, none, none, none, none, none, none], [], (mk B), B.kc, B.kn) res := by
  delta J_385_0_j503 at hr
  refine x_b 2 (S2 := (506, [some (.ref x0), some (.ref x1), none, none, none, some (.int x5), none, none, none, none, none, none, none, none], [.ref x0, .int x5], (mk B), B.kc, B.kn)) rfl ?_
  obtain ⟨v167, h168, hr⟩ := bd_some hr
  refine x_gI rfl rfl h168 ?_
  rcases ite_some hr with ⟨h169, hr⟩ | ⟨h169, hr⟩
  · refine x_ct rfl rfl (decide_eq_true h169) ?_
    refine x_b 2 (S2 := (518, [some (.ref x0), some (.ref x1), none, none, none, some (.int x5), none, none, none, none, none, none, none, none], [.int x5, .ref x0], (mk B), B.kc, B.kn)) rfl ?_
    obtain ⟨uh170, h170, hr⟩ := bd_some hr
    obtain ⟨⟨v172, B173⟩, h171, hr⟩ := bd_some hr
    refine x_cW (m_313 h171) rfl rfl rfl rfl (am_recv_c h170 (.inl rfl)) (by omega) ?_
    rcases ite_some hr with ⟨h174, hr⟩ | ⟨h174, hr⟩
    · refine x_zt rfl rfl (decide_eq_true h174) ?_
      refine x_b 1 (S2 := (532, [some (.ref x0), some (.ref x1), none, none, none, some (.int x5), none, none, none, none, none, none, none, none], [.ref x0], (mk B173), B173.kc, B173.kn)) rfl ?_
      obtain ⟨v175, h176, hr⟩ := bd_some hr
      refine x_gI rfl rfl h176 ?_
      refine x_b 1 (S2 := (537, [some (.ref x0), some (.ref x1), none, none, none, some (.int x5), none, none, none, some (.int v175), none, none, none, none], [], (mk B173), B173.kc, B173.kn)) rfl ?_
      refine x_fg (Lq.s (Lq.n (Lq.s (Lq.s (Lq.s (Lq.s (Lq.s (Lq.s (Lq.s (Lq.s (Lq.s (Lq.s (Lq.s (Lq.s Lq.nil)))))))))))))) ?_
      obtain ⟨B190, h189, hr⟩ := bd_some hr
      refine x_lw (P := P_385_537 x0 x5 v175) (Q := fun x => Ex d am_M385 scr (PX_385_537 x0 x5 v175 x) res) (fun s o h1 ka kx => g_385_537 hd h1 ka kx) _ B173 _ h189 ?_
      show Ex d am_M385 scr (572, [some (.ref x0), none, none, none, none, none, none, none, none, some (.int v175), none, none, none, none], [], (mk B190), B190.kc, B190.kn) res
      refine x_b 1 (S2 := (573, [some (.ref x0), none, none, none, none, none, none, none, none, some (.int v175), none, none, none, none], [.ref x0], (mk B190), B190.kc, B190.kn)) rfl ?_
      obtain ⟨v192, h193, hr⟩ := bd_some hr
      refine x_gI rfl rfl h193 ?_
      refine x_b 2 (S2 := (579, [some (.ref x0), none, none, none, none, none, none, none, none, some (.int v175), none, none, none, none], [.int (v192 - v175)], (mk B190), B190.kc, B190.kn)) rfl ?_
      cases hr
      rw [kr]
      exact x_ret rfl rfl am_ret_i
    · refine x_zf rfl rfl (decide_eq_false h174) ?_
      refine x_b 2 (S2 := (527, [some (.ref x0), some (.ref x1), none, none, none, some (.int x5), none, none, none, none, none, none, none, none], [.int 6, .ref x1], (mk B173), B173.kc, B173.kn)) rfl ?_
      obtain ⟨uh194, h194, hr⟩ := bd_some hr
      obtain ⟨⟨v196, B197⟩, h195, hr⟩ := bd_some hr
      refine x_cW (m_301 h195) rfl rfl rfl rfl (am_recv_c h194 (.inl rfl)) (by omega) ?_
      cases hr
      rw [kr]
      exact x_ret rfl rfl am_ret_i
  · refine x_cf rfl rfl (decide_eq_false h169) ?_
    refine x_b 1 (S2 := (514, [some (.ref x0), some (.ref x1), none, none, none, some (.int x5), none, none, none, none, none, none, none, none], [.int (3294967295 : Int32)], (mk B), B.kc, B.kn)) rfl ?_
    cases hr
    rw [kr]
    exact x_ret rfl rfl am_ret_i
abbrev P_385_627 (x0 : Nat) (x9 : Nat) (s : Int32 × Wd) : ASt := (627, [some (.ref x0), none, none, none, none, none, none, none, none, some (.ref x9), some (.int s.1), none, none, none], [], (mk s.2), Wd.kc s.2, Wd.kn s.2)
abbrev PX_385_627 (x0 : Nat) (x9 : Nat) (s : Wd) : ASt := (646, [some (.ref x0), none, none, none, none, none, none, none, none, some (.ref x9), none, none, none, none], [], (mk s), Wd.kc s, Wd.kn s)
def G_385_627 (x0 : Nat) (x9 : Nat) (s : Int32 × Wd) : Option ((Int32 × Wd) ⊕ (Wd)) := 
  match s with
  | (x10, B) =>
    if 13 ≤ x10 then
      some (.inr B)
    else
      (B.sI x9 x10 (-1)).bind fun B214 =>
      some (.inl ((x10 + 1), B214))
set_option maxRecDepth 200000 in
theorem g_385_627 {d : Nat} (hd : 68 ≤ d) {scr : ASc} {res : ARe} {x0 : Nat} {x9 : Nat} {s : Int32 × Wd} {o : (Int32 × Wd) ⊕ (Wd)} (hr : G_385_627 x0 x9 s = some o) (ka : ∀ s, o = .inl s → Ex d am_M385 scr (P_385_627 x0 x9 s) res) (kx : ∀ s, o = .inr s → Ex d am_M385 scr (PX_385_627 x0 x9 s) res) : Ex d am_M385 scr (P_385_627 x0 x9 s) res := by
  obtain ⟨x10, B⟩ := s
  delta G_385_627 at hr
  show Ex d am_M385 scr (627, [some (.ref x0), none, none, none, none, none, none, none, none, some (.ref x9), some (.int x10), none, none, none], [], (mk B), B.kc, B.kn) res
  refine x_b 2 (S2 := (631, [some (.ref x0), none, none, none, none, none, none, none, none, some (.ref x9), some (.int x10), none, none, none], [.int 13, .int x10], (mk B), B.kc, B.kn)) rfl ?_
  rcases ite_some hr with ⟨h213, hr⟩ | ⟨h213, hr⟩
  · refine x_ct rfl rfl (decide_eq_true h213) ?_
    refine x_fg (Lq.s (Lq.s (Lq.s (Lq.s (Lq.s (Lq.s (Lq.s (Lq.s (Lq.s (Lq.s (Lq.n (Lq.s (Lq.s (Lq.s Lq.nil)))))))))))))) ?_
    exact kx B (Option.some.inj hr).symm
  · refine x_cf rfl rfl (decide_eq_false h213) ?_
    refine x_b 3 (S2 := (639, [some (.ref x0), none, none, none, none, none, none, none, none, some (.ref x9), some (.int x10), none, none, none], [.int (-1), .int x10, .ref x9], (mk B), B.kc, B.kn)) rfl ?_
    obtain ⟨B214, h215, hr⟩ := bd_some hr
    refine x_sI rfl rfl h215 ?_
    refine x_b 2 (S2 := (627, [some (.ref x0), none, none, none, none, none, none, none, none, some (.ref x9), some (.int (x10 + 1)), none, none, none], [], (mk B214), B214.kc, B214.kn)) rfl ?_
    refine x_fg (Lq.s (Lq.s (Lq.s (Lq.s (Lq.s (Lq.s (Lq.s (Lq.s (Lq.s (Lq.s (Lq.s (Lq.s (Lq.s (Lq.s Lq.nil)))))))))))))) ?_
    exact ka ((x10 + 1), B214) (Option.some.inj hr).symm
def J_385_0_j580 (B : Wd) (x0 : Nat) (x1 : Nat) (x5 : Int32) : Option (Int32 × Wd) :=
  (B.gI x0 7 0).bind fun v199 =>
  if ¬ x5 = v199 then
    (B.gR x0 7 4).bind fun v202 =>
    (B.rc v202 10).bind fun _ =>
    (F_349 B v202).bind fun v206 =>
    if ¬ v206 = 6 then
      (B.nA 0 13).bind fun (a208, B209) =>
      (B209.sI a208 0 x5).bind fun B211 =>
      (lw (G_385_627 x0 a208) 200000 (7, B211)).bind fun B217 =>
      (B217.gR x0 7 4).bind fun v219 =>
      (B217.rc v219 10).bind fun _ =>
      (F_354 B217 v219 a208).bind fun (v223, B224) =>
      (B224.gR x0 7 4).bind fun v225 =>
      (B224.rc v225 10).bind fun _ =>
      (F_349 B224 v225).bind fun v229 =>
      some ((v229 - 1), B224)
    else
      (B.rc x1 6).bind fun _ =>
      (F_301 B x1 7).bind fun (v232, B233) =>
      some (v232, B233)
  else
    some ((3294967295 : Int32), B)
set_option maxRecDepth 200000 in
theorem j_385_0_j580 {d : Nat} (hd : 68 ≤ d) {scr : ASc} {res : ARe} {B : Wd} {x0 : Nat} {x1 : Nat} {x5 : Int32} {o : Int32 × Wd} (hr : J_385_0_j580 B x0 x1 x5 = some o) (kr : res = (.inl (some (.int o.1)), mk o.2, Wd.kc o.2, Wd.kn o.2)) : Ex d am_M385 scr (580, [some (.ref x0), some (.ref x1), none, none, none, some (.int x5), none, none, none, none, none, none, none, none], [], (mk B), B.kc, B.kn) res := by
  delta J_385_0_j580 at hr
  refine x_b 2 (S2 := (583, [some (.ref x0), some (.ref x1), none, none, none, some (.int x5), none, none, none, none, none, none, none, none], [.ref x0, .int x5], (mk B), B.kc, B.kn)) rfl ?_
  obtain ⟨v199, h200, hr⟩ := bd_some hr
  refine x_gI rfl rfl h200 ?_
  rcases ite_some hr with ⟨h201, hr⟩ | ⟨h201, hr⟩
  · refine x_ct rfl rfl (decide_eq_true h201) ?_
    refine x_b 1 (S2 := (593, [some (.ref x0), some (.ref x1), none, none, none, some (.int x5), none, none, none, none, none, none, none, none], [.ref x0], (mk B), B.kc, B.kn)) rfl ?_
    obtain ⟨v202, h203, hr⟩ := bd_some hr
    refine x_gR rfl rfl h203 ?_
    obtain ⟨uh204, h204, hr⟩ := bd_some hr
    obtain ⟨v206, h205, hr⟩ := bd_some hr
    refine x_cW (m_349 h205) rfl rfl rfl rfl (am_recv_c h204 (.inl rfl)) (by omega) ?_
    refine x_b 1 (S2 := (601, [some (.ref x0), some (.ref x1), none, none, none, some (.int x5), none, none, none, none, none, none, none, none], [.int 6, .int v206], (mk B), B.kc, B.kn)) rfl ?_
    rcases ite_some hr with ⟨h207, hr⟩ | ⟨h207, hr⟩
    · refine x_ct rfl rfl (decide_eq_true h207) ?_
      refine x_b 1 (S2 := (613, [some (.ref x0), some (.ref x1), none, none, none, some (.int x5), none, none, none, none, none, none, none, none], [.int 13], (mk B), B.kc, B.kn)) rfl ?_
      obtain ⟨⟨a208, B209⟩, h210, hr⟩ := bd_some hr
      refine x_nA rfl rfl (.inl ⟨rfl, rfl⟩) h210 ?_
      refine x_b 4 (S2 := (622, [some (.ref x0), some (.ref x1), none, none, none, some (.int x5), none, none, none, some (.ref a208), none, none, none, none], [.int x5, .int 0, .ref a208], (mk B209), B209.kc, B209.kn)) rfl ?_
      obtain ⟨B211, h212, hr⟩ := bd_some hr
      refine x_sI rfl rfl h212 ?_
      refine x_b 2 (S2 := (627, [some (.ref x0), some (.ref x1), none, none, none, some (.int x5), none, none, none, some (.ref a208), some (.int 7), none, none, none], [], (mk B211), B211.kc, B211.kn)) rfl ?_
      refine x_fg (Lq.s (Lq.n (Lq.s (Lq.s (Lq.s (Lq.n (Lq.s (Lq.s (Lq.s (Lq.s (Lq.s (Lq.s (Lq.s (Lq.s Lq.nil)))))))))))))) ?_
      obtain ⟨B217, h216, hr⟩ := bd_some hr
      refine x_lw (P := P_385_627 x0 a208) (Q := fun x => Ex d am_M385 scr (PX_385_627 x0 a208 x) res) (fun s o h1 ka kx => g_385_627 hd h1 ka kx) _ (7, B211) _ h216 ?_
      show Ex d am_M385 scr (646, [some (.ref x0), none, none, none, none, none, none, none, none, some (.ref a208), none, none, none, none], [], (mk B217), B217.kc, B217.kn) res
      refine x_b 1 (S2 := (647, [some (.ref x0), none, none, none, none, none, none, none, none, some (.ref a208), none, none, none, none], [.ref x0], (mk B217), B217.kc, B217.kn)) rfl ?_
      obtain ⟨v219, h220, hr⟩ := bd_some hr
      refine x_gR rfl rfl h220 ?_
      refine x_b 1 (S2 := (652, [some (.ref x0), none, none, none, none, none, none, none, none, some (.ref a208), none, none, none, none], [.ref a208, .ref v219], (mk B217), B217.kc, B217.kn)) rfl ?_
      obtain ⟨uh221, h221, hr⟩ := bd_some hr
      obtain ⟨⟨v223, B224⟩, h222, hr⟩ := bd_some hr
      refine x_cW (m_354 h222) rfl rfl rfl rfl (am_recv_c h221 (.inl rfl)) (by omega) ?_
      refine x_b 2 (S2 := (657, [some (.ref x0), none, none, none, none, none, none, none, none, some (.ref a208), none, none, none, none], [.ref x0], (mk B224), B224.kc, B224.kn)) rfl ?_
      obtain ⟨v225, h226, hr⟩ := bd_some hr
      refine x_gR rfl rfl h226 ?_
      obtain ⟨uh227, h227, hr⟩ := bd_some hr
      obtain ⟨v229, h228, hr⟩ := bd_some hr
      refine x_cW (m_349 h228) rfl rfl rfl rfl (am_recv_c h227 (.inl rfl)) (by omega) ?_
      refine x_b 2 (S2 := (665, [some (.ref x0), none, none, none, none, none, none, none, none, some (.ref a208), none, none, none, none], [.int (v229 - 1)], (mk B224), B224.kc, B224.kn)) rfl ?_
      cases hr
      rw [kr]
      exact x_ret rfl rfl am_ret_i
    · refine x_cf rfl rfl (decide_eq_false h207) ?_
      refine x_b 2 (S2 := (607, [some (.ref x0), some (.ref x1), none, none, none, some (.int x5), none, none, none, none, none, none, none, none], [.int 7, .ref x1], (mk B), B.kc, B.kn)) rfl ?_
      obtain ⟨uh230, h230, hr⟩ := bd_some hr
      obtain ⟨⟨v232, B233⟩, h231, hr⟩ := bd_some hr
      refine x_cW (m_301 h231) rfl rfl rfl rfl (am_recv_c h230 (.inl rfl)) (by omega) ?_
      cases hr
      rw [kr]
      exact x_ret rfl rfl am_ret_i
  · refine x_cf rfl rfl (decide_eq_false h201) ?_
    refine x_b 1 (S2 := (591, [some (.ref x0), some (.ref x1), none, none, none, some (.int x5), none, none, none, none, none, none, none, none], [.int (3294967295 : Int32)], (mk B), B.kc, B.kn)) rfl ?_
    cases hr
    rw [kr]
    exact x_ret rfl rfl am_ret_i
def J_385_0_j732 (B : Wd) : Option (Int32 × Wd) :=
  some ((3294967295 : Int32), B)
set_option maxRecDepth 200000 in
theorem j_385_0_j732 {d : Nat} (hd : 68 ≤ d) {scr : ASc} {res : ARe} {B : Wd} {o : Int32 × Wd} (hr : J_385_0_j732 B = some o) (kr : res = (.inl (some (.int o.1)), mk o.2, Wd.kc o.2, Wd.kn o.2)) : Ex d am_M385 scr (732, [none, none, none, none, none, none, none, none, none, none, none, none, none, none], [], (mk B), B.kc, B.kn) res := by
  delta J_385_0_j732 at hr
  refine x_b 1 (S2 := (734, [none, none, none, none, none, none, none, none, none, none, none, none, none, none], [.int (3294967295 : Int32)], (mk B), B.kc, B.kn)) rfl ?_
  cases hr
  rw [kr]
  exact x_ret rfl rfl am_ret_i
def J_385_0_j769 (B : Wd) : Option (Int32 × Wd) :=
  some ((3294967294 : Int32), B)
set_option maxRecDepth 200000 in
theorem j_385_0_j769 {d : Nat} (hd : 68 ≤ d) {scr : ASc} {res : ARe} {B : Wd} {o : Int32 × Wd} (hr : J_385_0_j769 B = some o) (kr : res = (.inl (some (.int o.1)), mk o.2, Wd.kc o.2, Wd.kn o.2)) : Ex d am_M385 scr (769, [none, none, none, none, none, none, none, none, none, none, none, none, none, none], [], (mk B), B.kc, B.kn) res := by
  delta J_385_0_j769 at hr
  refine x_b 1 (S2 := (771, [none, none, none, none, none, none, none, none, none, none, none, none, none, none], [.int (3294967294 : Int32)], (mk B), B.kc, B.kn)) rfl ?_
  cases hr
  rw [kr]
  exact x_ret rfl rfl am_ret_i
def J_385_0_j666 (B : Wd) (x0 : Nat) (x3 : Int32) (x4 : Int32) (x8 : Int32) : Option (Int32 × Wd) :=
  (B.gI x0 7 0).bind fun v235 =>
  (F_382 B x4 v235).bind fun v238 =>
  (B.gI x0 7 0).bind fun v239 =>
  (F_382 B (x3 / 9) v239).bind fun v242 =>
  (F_383 B (x4 / 5) 0 64).bind fun v244 =>
  (B.gR x0 7 4).bind fun v245 =>
  (B.rc v245 10).bind fun _ =>
  (F_349 B v245).bind fun v249 =>
  if x8 = v249 then
    J_385_0_j732 B
  else
    (B.gI x0 7 0).bind fun v251 =>
    if v238 = v251 then
      J_385_0_j732 B
    else
      (B.gI x0 7 0).bind fun v254 =>
      if ¬ v242 = v254 then
        (B.gR x0 7 4).bind fun v257 =>
        (B.rc v257 10).bind fun _ =>
        (F_352 B v257 x8).bind fun v261 =>
        (B.ra v261 0).bind fun _ =>
        (F_384 B v244 0 64).bind fun v264 =>
        if v264 = 0 then
          J_385_0_j769 B
        else
          (B.aI v261 0).bind fun v266 =>
          if ¬ v266 = v238 then
            (B.aI v261 (1 + v238)).bind fun v269 =>
            (B.sI v261 (1 + v238) v244).bind fun B271 =>
            (B271.sI v261 (7 + v238) v242).bind fun B273 =>
            some (v269, B273)
          else
            J_385_0_j769 B
      else
        J_385_0_j732 B
set_option maxRecDepth 200000 in
theorem j_385_0_j666 {d : Nat} (hd : 68 ≤ d) {scr : ASc} {res : ARe} {B : Wd} {x0 : Nat} {x3 : Int32} {x4 : Int32} {x8 : Int32} {o : Int32 × Wd} (hr : J_385_0_j666 B x0 x3 x4 x8 = some o) (kr : res = (.inl (some (.int o.1)), mk o.2, Wd.kc o.2, Wd.kn o.2)) : Ex d am_M385 scr (666, [some (.ref x0), none, none, some (.int x3), some (.int x4), none, none, none, some (.int x8), none, none, none, none, none], [], (mk B), B.kc, B.kn) res := by
  delta J_385_0_j666 at hr
  refine x_b 2 (S2 := (669, [some (.ref x0), none, none, some (.int x3), some (.int x4), none, none, none, some (.int x8), none, none, none, none, none], [.ref x0, .int x4], (mk B), B.kc, B.kn)) rfl ?_
  obtain ⟨v235, h236, hr⟩ := bd_some hr
  refine x_gI rfl rfl h236 ?_
  obtain ⟨v238, h237, hr⟩ := bd_some hr
  refine x_cW (m_382 h237) rfl rfl rfl rfl rfl (by omega) ?_
  refine x_b 3 (S2 := (680, [some (.ref x0), none, none, some (.int x3), some (.int x4), none, none, none, some (.int x8), some (.int v238), none, none, none, none], [.int 9, .int x3], (mk B), B.kc, B.kn)) rfl ?_
  refine x_div rfl rfl (by decide) ?_
  refine x_b 1 (S2 := (682, [some (.ref x0), none, none, some (.int x3), some (.int x4), none, none, none, some (.int x8), some (.int v238), none, none, none, none], [.ref x0, .int (x3 / 9)], (mk B), B.kc, B.kn)) rfl ?_
  obtain ⟨v239, h240, hr⟩ := bd_some hr
  refine x_gI rfl rfl h240 ?_
  obtain ⟨v242, h241, hr⟩ := bd_some hr
  refine x_cW (m_382 h241) rfl rfl rfl rfl rfl (by omega) ?_
  refine x_b 3 (S2 := (693, [some (.ref x0), none, none, some (.int x3), some (.int x4), none, none, none, some (.int x8), some (.int v238), some (.int v242), none, none, none], [.int 5, .int x4], (mk B), B.kc, B.kn)) rfl ?_
  refine x_div rfl rfl (by decide) ?_
  refine x_b 2 (S2 := (697, [some (.ref x0), none, none, some (.int x3), some (.int x4), none, none, none, some (.int x8), some (.int v238), some (.int v242), none, none, none], [.int 64, .int 0, .int (x4 / 5)], (mk B), B.kc, B.kn)) rfl ?_
  obtain ⟨v244, h243, hr⟩ := bd_some hr
  refine x_cW (m_383 h243) rfl rfl rfl rfl rfl (by omega) ?_
  refine x_b 3 (S2 := (705, [some (.ref x0), none, none, some (.int x3), some (.int x4), none, none, none, some (.int x8), some (.int v238), some (.int v242), some (.int v244), none, none], [.ref x0, .int x8], (mk B), B.kc, B.kn)) rfl ?_
  obtain ⟨v245, h246, hr⟩ := bd_some hr
  refine x_gR rfl rfl h246 ?_
  obtain ⟨uh247, h247, hr⟩ := bd_some hr
  obtain ⟨v249, h248, hr⟩ := bd_some hr
  refine x_cW (m_349 h248) rfl rfl rfl rfl (am_recv_c h247 (.inl rfl)) (by omega) ?_
  rcases ite_some hr with ⟨h250, hr⟩ | ⟨h250, hr⟩
  · refine x_ct rfl rfl (decide_eq_true h250) ?_
    refine x_fg (Lq.n (Lq.s (Lq.s (Lq.n (Lq.n (Lq.s (Lq.s (Lq.s (Lq.n (Lq.n (Lq.n (Lq.n (Lq.s (Lq.s Lq.nil)))))))))))))) ?_
    exact j_385_0_j732 hd hr kr
  · refine x_cf rfl rfl (decide_eq_false h250) ?_
    refine x_b 2 (S2 := (717, [some (.ref x0), none, none, some (.int x3), some (.int x4), none, none, none, some (.int x8), some (.int v238), some (.int v242), some (.int v244), none, none], [.ref x0, .int v238], (mk B), B.kc, B.kn)) rfl ?_
    obtain ⟨v251, h252, hr⟩ := bd_some hr
    refine x_gI rfl rfl h252 ?_
    rcases ite_some hr with ⟨h253, hr⟩ | ⟨h253, hr⟩
    · refine x_ct rfl rfl (decide_eq_true h253) ?_
      refine x_fg (Lq.n (Lq.s (Lq.s (Lq.n (Lq.n (Lq.s (Lq.s (Lq.s (Lq.n (Lq.n (Lq.n (Lq.n (Lq.s (Lq.s Lq.nil)))))))))))))) ?_
      exact j_385_0_j732 hd hr kr
    · refine x_cf rfl rfl (decide_eq_false h253) ?_
      refine x_b 2 (S2 := (726, [some (.ref x0), none, none, some (.int x3), some (.int x4), none, none, none, some (.int x8), some (.int v238), some (.int v242), some (.int v244), none, none], [.ref x0, .int v242], (mk B), B.kc, B.kn)) rfl ?_
      obtain ⟨v254, h255, hr⟩ := bd_some hr
      refine x_gI rfl rfl h255 ?_
      rcases ite_some hr with ⟨h256, hr⟩ | ⟨h256, hr⟩
      · refine x_ct rfl rfl (decide_eq_true h256) ?_
        refine x_b 1 (S2 := (736, [some (.ref x0), none, none, some (.int x3), some (.int x4), none, none, none, some (.int x8), some (.int v238), some (.int v242), some (.int v244), none, none], [.ref x0], (mk B), B.kc, B.kn)) rfl ?_
        obtain ⟨v257, h258, hr⟩ := bd_some hr
        refine x_gR rfl rfl h258 ?_
        refine x_b 1 (S2 := (741, [some (.ref x0), none, none, some (.int x3), some (.int x4), none, none, none, some (.int x8), some (.int v238), some (.int v242), some (.int v244), none, none], [.int x8, .ref v257], (mk B), B.kc, B.kn)) rfl ?_
        obtain ⟨uh259, h259, hr⟩ := bd_some hr
        obtain ⟨v261, h260, hr⟩ := bd_some hr
        refine x_cW (m_352 h260) rfl rfl rfl rfl (am_recv_c h259 (.inl rfl)) (by omega) ?_
        obtain ⟨uh262, h262, hr⟩ := bd_some hr
        refine x_ckA (t := 0) rfl rfl h262 ?_
        refine x_b 4 (S2 := (754, [some (.ref x0), none, none, some (.int x3), some (.int x4), none, none, none, some (.int x8), some (.int v238), some (.int v242), some (.int v244), some (.ref v261), none], [.int 64, .int 0, .int v244], (mk B), B.kc, B.kn)) rfl ?_
        obtain ⟨v264, h263, hr⟩ := bd_some hr
        refine x_cW (m_384 h263) rfl rfl rfl rfl rfl (by omega) ?_
        rcases ite_some hr with ⟨h265, hr⟩ | ⟨h265, hr⟩
        · refine x_zt rfl rfl (decide_eq_true h265) ?_
          refine x_fg (Lq.n (Lq.s (Lq.s (Lq.n (Lq.n (Lq.s (Lq.s (Lq.s (Lq.n (Lq.n (Lq.n (Lq.n (Lq.n (Lq.s Lq.nil)))))))))))))) ?_
          exact j_385_0_j769 hd hr kr
        · refine x_zf rfl rfl (decide_eq_false h265) ?_
          refine x_b 2 (S2 := (763, [some (.ref x0), none, none, some (.int x3), some (.int x4), none, none, none, some (.int x8), some (.int v238), some (.int v242), some (.int v244), some (.ref v261), none], [.int 0, .ref v261], (mk B), B.kc, B.kn)) rfl ?_
          obtain ⟨v266, h267, hr⟩ := bd_some hr
          refine x_aI rfl rfl h267 ?_
          refine x_b 1 (S2 := (766, [some (.ref x0), none, none, some (.int x3), some (.int x4), none, none, none, some (.int x8), some (.int v238), some (.int v242), some (.int v244), some (.ref v261), none], [.int v238, .int v266], (mk B), B.kc, B.kn)) rfl ?_
          rcases ite_some hr with ⟨h268, hr⟩ | ⟨h268, hr⟩
          · refine x_ct rfl rfl (decide_eq_true h268) ?_
            refine x_b 4 (S2 := (778, [some (.ref x0), none, none, some (.int x3), some (.int x4), none, none, none, some (.int x8), some (.int v238), some (.int v242), some (.int v244), some (.ref v261), none], [.int (1 + v238), .ref v261], (mk B), B.kc, B.kn)) rfl ?_
            obtain ⟨v269, h270, hr⟩ := bd_some hr
            refine x_aI rfl rfl h270 ?_
            refine x_b 6 (S2 := (789, [some (.ref x0), none, none, some (.int x3), some (.int x4), none, none, none, some (.int x8), some (.int v238), some (.int v242), some (.int v244), some (.ref v261), some (.int v269)], [.int v244, .int (1 + v238), .ref v261], (mk B), B.kc, B.kn)) rfl ?_
            obtain ⟨B271, h272, hr⟩ := bd_some hr
            refine x_sI rfl rfl h272 ?_
            refine x_b 5 (S2 := (799, [some (.ref x0), none, none, some (.int x3), some (.int x4), none, none, none, some (.int x8), some (.int v238), some (.int v242), some (.int v244), some (.ref v261), some (.int v269)], [.int v242, .int (7 + v238), .ref v261], (mk B271), B271.kc, B271.kn)) rfl ?_
            obtain ⟨B273, h274, hr⟩ := bd_some hr
            refine x_sI rfl rfl h274 ?_
            refine x_b 1 (S2 := (802, [some (.ref x0), none, none, some (.int x3), some (.int x4), none, none, none, some (.int x8), some (.int v238), some (.int v242), some (.int v244), some (.ref v261), some (.int v269)], [.int v269], (mk B273), B273.kc, B273.kn)) rfl ?_
            cases hr
            rw [kr]
            exact x_ret rfl rfl am_ret_i
          · refine x_cf rfl rfl (decide_eq_false h268) ?_
            refine x_fg (Lq.n (Lq.s (Lq.s (Lq.n (Lq.n (Lq.s (Lq.s (Lq.s (Lq.n (Lq.n (Lq.n (Lq.n (Lq.n (Lq.s Lq.nil)))))))))))))) ?_
            exact j_385_0_j769 hd hr kr
      · refine x_cf rfl rfl (decide_eq_false h256) ?_
        refine x_fg (Lq.n (Lq.s (Lq.s (Lq.n (Lq.n (Lq.s (Lq.s (Lq.s (Lq.n (Lq.n (Lq.n (Lq.n (Lq.s (Lq.s Lq.nil)))))))))))))) ?_
        exact j_385_0_j732 hd hr kr
def J_385_0_j803 (B : Wd) (x0 : Nat) (x8 : Int32) : Option (Int32 × Wd) :=
  (B.gR x0 7 4).bind fun v276 =>
  (B.rc v276 10).bind fun _ =>
  (F_349 B v276).bind fun v280 =>
  if ¬ x8 = v280 then
    (B.gR x0 7 4).bind fun v282 =>
    (B.rc v282 10).bind fun _ =>
    (F_355 B v282 x8).bind fun (a286, B287) =>
    (B287.ra a286 0).bind fun _ =>
    (B287.gR x0 7 4).bind fun v289 =>
    (B287.rc v289 10).bind fun _ =>
    (F_349 B287 v289).bind fun v293 =>
    some (v293, B287)
  else
    some ((3294967295 : Int32), B)
set_option maxRecDepth 200000 in
theorem j_385_0_j803 {d : Nat} (hd : 68 ≤ d) {scr : ASc} {res : ARe} {B : Wd} {x0 : Nat} {x8 : Int32} {o : Int32 × Wd} (hr : J_385_0_j803 B x0 x8 = some o) (kr : res = (.inl (some (.int o.1)), mk o.2, Wd.kc o.2, Wd.kn o.2)) : Ex d am_M385 scr (803, [some (.ref x0), none, none, none, none, none, none, none, some (.int x8), none, none, none, none, none], [], (mk B), B.kc, B.kn) res := by
  delta J_385_0_j803 at hr
  refine x_b 2 (S2 := (806, [some (.ref x0), none, none, none, none, none, none, none, some (.int x8), none, none, none, none, none], [.ref x0, .int x8], (mk B), B.kc, B.kn)) rfl ?_
  obtain ⟨v276, h277, hr⟩ := bd_some hr
  refine x_gR rfl rfl h277 ?_
  obtain ⟨uh278, h278, hr⟩ := bd_some hr
  obtain ⟨v280, h279, hr⟩ := bd_some hr
  refine x_cW (m_349 h279) rfl rfl rfl rfl (am_recv_c h278 (.inl rfl)) (by omega) ?_
  rcases ite_some hr with ⟨h281, hr⟩ | ⟨h281, hr⟩
  · refine x_ct rfl rfl (decide_eq_true h281) ?_
    refine x_b 1 (S2 := (819, [some (.ref x0), none, none, none, none, none, none, none, some (.int x8), none, none, none, none, none], [.ref x0], (mk B), B.kc, B.kn)) rfl ?_
    obtain ⟨v282, h283, hr⟩ := bd_some hr
    refine x_gR rfl rfl h283 ?_
    refine x_b 1 (S2 := (824, [some (.ref x0), none, none, none, none, none, none, none, some (.int x8), none, none, none, none, none], [.int x8, .ref v282], (mk B), B.kc, B.kn)) rfl ?_
    obtain ⟨uh284, h284, hr⟩ := bd_some hr
    obtain ⟨⟨a286, B287⟩, h285, hr⟩ := bd_some hr
    refine x_cW (m_355 h285) rfl rfl rfl rfl (am_recv_c h284 (.inl rfl)) (by omega) ?_
    obtain ⟨uh288, h288, hr⟩ := bd_some hr
    refine x_ckA (t := 0) rfl rfl h288 ?_
    refine x_b 2 (S2 := (833, [some (.ref x0), none, none, none, none, none, none, none, some (.int x8), some (.ref a286), none, none, none, none], [.ref x0], (mk B287), B287.kc, B287.kn)) rfl ?_
    obtain ⟨v289, h290, hr⟩ := bd_some hr
    refine x_gR rfl rfl h290 ?_
    obtain ⟨uh291, h291, hr⟩ := bd_some hr
    obtain ⟨v293, h292, hr⟩ := bd_some hr
    refine x_cW (m_349 h292) rfl rfl rfl rfl (am_recv_c h291 (.inl rfl)) (by omega) ?_
    cases hr
    rw [kr]
    exact x_ret rfl rfl am_ret_i
  · refine x_cf rfl rfl (decide_eq_false h281) ?_
    refine x_b 1 (S2 := (817, [some (.ref x0), none, none, none, none, none, none, none, some (.int x8), none, none, none, none, none], [.int (3294967295 : Int32)], (mk B), B.kc, B.kn)) rfl ?_
    cases hr
    rw [kr]
    exact x_ret rfl rfl am_ret_i
def J_385_0_j50 (B : Wd) (x0 : Nat) (x1 : Nat) (x2 : Int32) (x3 : Int32) (x4 : Int32) (x5 : Int32) (x6 : Int32) (t0 : Int32) : Option (Int32 × Wd) :=
  (B.gR x0 7 4).bind fun v12 =>
  (B.rc v12 10).bind fun _ =>
  (F_349 B v12).bind fun v16 =>
  (F_382 B x3 v16).bind fun v18 =>
  if x2 = 0 then
    J_385_0_j140 B x0 x1 x5 x6 t0
  else if x2 = 1 then
    J_385_0_j140 B x0 x1 x5 x6 t0
  else if x2 = 2 then
    J_385_0_j190 B x0 x1 x5 x6 t0
  else if x2 = 3 then
    J_385_0_j190 B x0 x1 x5 x6 t0
  else if x2 = 4 then
    J_385_0_j255 B x0 x4 x5
  else if x2 = 5 then
    J_385_0_j255 B x0 x4 x5
  else if x2 = 6 then
    J_385_0_j255 B x0 x4 x5
  else if x2 = 7 then
    J_385_0_j338 B x0 x1 x4 x5
  else if x2 = 8 then
    J_385_0_j423 B x0 x1 x5 x6 t0
  else if x2 = 9 then
    J_385_0_j423 B x0 x1 x5 x6 t0
  else if x2 = 10 then
    J_385_0_j423 B x0 x1 x5 x6 t0
  else if x2 = 11 then
    J_385_0_j503 B x0 x1 x5
  else if x2 = 12 then
    J_385_0_j580 B x0 x1 x5
  else if x2 = 13 then
    J_385_0_j666 B x0 x3 x4 v18
  else if x2 = 14 then
    J_385_0_j666 B x0 x3 x4 v18
  else 
    J_385_0_j803 B x0 v18
set_option maxRecDepth 200000 in
theorem j_385_0_j50 {d : Nat} (hd : 68 ≤ d) {scr : ASc} {res : ARe} {B : Wd} {x0 : Nat} {x1 : Nat} {x2 : Int32} {x3 : Int32} {x4 : Int32} {x5 : Int32} {x6 : Int32} {t0 : Int32} {o : Int32 × Wd} (hr : J_385_0_j50 B x0 x1 x2 x3 x4 x5 x6 t0 = some o) (kr : res = (.inl (some (.int o.1)), mk o.2, Wd.kc o.2, Wd.kn o.2)) : Ex d am_M385 scr (50, [some (.ref x0), some (.ref x1), some (.int x2), some (.int x3), some (.int x4), some (.int x5), some (.int x6), none, none, none, none, none, none, none], [.int t0], (mk B), B.kc, B.kn) res := by
  delta J_385_0_j50 at hr
  refine x_b 3 (S2 := (54, [some (.ref x0), some (.ref x1), some (.int x2), some (.int x3), some (.int x4), some (.int x5), some (.int x6), some (.int t0), none, none, none, none, none, none], [.ref x0, .int x3], (mk B), B.kc, B.kn)) rfl ?_
  obtain ⟨v12, h13, hr⟩ := bd_some hr
  refine x_gR rfl rfl h13 ?_
  obtain ⟨uh14, h14, hr⟩ := bd_some hr
  obtain ⟨v16, h15, hr⟩ := bd_some hr
  refine x_cW (m_349 h15) rfl rfl rfl rfl (am_recv_c h14 (.inl rfl)) (by omega) ?_
  obtain ⟨v18, h17, hr⟩ := bd_some hr
  refine x_cW (m_382 h17) rfl rfl rfl rfl rfl (by omega) ?_
  refine x_b 2 (S2 := (66, [some (.ref x0), some (.ref x1), some (.int x2), some (.int x3), some (.int x4), some (.int x5), some (.int x6), some (.int t0), some (.int v18), none, none, none, none, none], [.int x2], (mk B), B.kc, B.kn)) rfl ?_
  rcases ite_some hr with ⟨h19, hr⟩ | ⟨h19, hr⟩
  · refine x_tswk rfl rfl h19 rfl ?_
    refine x_fg (Lq.s (Lq.s (Lq.n (Lq.n (Lq.n (Lq.s (Lq.s (Lq.s (Lq.n (Lq.s (Lq.s (Lq.s (Lq.s (Lq.s Lq.nil)))))))))))))) ?_
    exact j_385_0_j140 hd hr kr
  rcases ite_some hr with ⟨h39, hr⟩ | ⟨h39, hr⟩
  · refine x_tswk rfl rfl h39 rfl ?_
    refine x_fg (Lq.s (Lq.s (Lq.n (Lq.n (Lq.n (Lq.s (Lq.s (Lq.s (Lq.n (Lq.s (Lq.s (Lq.s (Lq.s (Lq.s Lq.nil)))))))))))))) ?_
    exact j_385_0_j140 hd hr kr
  rcases ite_some hr with ⟨h40, hr⟩ | ⟨h40, hr⟩
  · refine x_tswk rfl rfl h40 rfl ?_
    refine x_fg (Lq.s (Lq.s (Lq.n (Lq.n (Lq.n (Lq.s (Lq.s (Lq.s (Lq.n (Lq.s (Lq.s (Lq.s (Lq.s (Lq.s Lq.nil)))))))))))))) ?_
    exact j_385_0_j190 hd hr kr
  rcases ite_some hr with ⟨h69, hr⟩ | ⟨h69, hr⟩
  · refine x_tswk rfl rfl h69 rfl ?_
    refine x_fg (Lq.s (Lq.s (Lq.n (Lq.n (Lq.n (Lq.s (Lq.s (Lq.s (Lq.n (Lq.s (Lq.s (Lq.s (Lq.s (Lq.s Lq.nil)))))))))))))) ?_
    exact j_385_0_j190 hd hr kr
  rcases ite_some hr with ⟨h70, hr⟩ | ⟨h70, hr⟩
  · refine x_tswk rfl rfl h70 rfl ?_
    refine x_fg (Lq.s (Lq.n (Lq.n (Lq.n (Lq.s (Lq.s (Lq.n (Lq.n (Lq.n (Lq.s (Lq.s (Lq.s (Lq.s (Lq.s Lq.nil)))))))))))))) ?_
    exact j_385_0_j255 hd hr kr
  rcases ite_some hr with ⟨h95, hr⟩ | ⟨h95, hr⟩
  · refine x_tswk rfl rfl h95 rfl ?_
    refine x_fg (Lq.s (Lq.n (Lq.n (Lq.n (Lq.s (Lq.s (Lq.n (Lq.n (Lq.n (Lq.s (Lq.s (Lq.s (Lq.s (Lq.s Lq.nil)))))))))))))) ?_
    exact j_385_0_j255 hd hr kr
  rcases ite_some hr with ⟨h96, hr⟩ | ⟨h96, hr⟩
  · refine x_tswk rfl rfl h96 rfl ?_
    refine x_fg (Lq.s (Lq.n (Lq.n (Lq.n (Lq.s (Lq.s (Lq.n (Lq.n (Lq.n (Lq.s (Lq.s (Lq.s (Lq.s (Lq.s Lq.nil)))))))))))))) ?_
    exact j_385_0_j255 hd hr kr
  rcases ite_some hr with ⟨h97, hr⟩ | ⟨h97, hr⟩
  · refine x_tswk rfl rfl h97 rfl ?_
    refine x_fg (Lq.s (Lq.s (Lq.n (Lq.n (Lq.s (Lq.s (Lq.n (Lq.n (Lq.n (Lq.s (Lq.s (Lq.s (Lq.s (Lq.s Lq.nil)))))))))))))) ?_
    exact j_385_0_j338 hd hr kr
  rcases ite_some hr with ⟨h126, hr⟩ | ⟨h126, hr⟩
  · refine x_tswk rfl rfl h126 rfl ?_
    refine x_fg (Lq.s (Lq.s (Lq.n (Lq.n (Lq.n (Lq.s (Lq.s (Lq.s (Lq.n (Lq.s (Lq.s (Lq.s (Lq.s (Lq.s Lq.nil)))))))))))))) ?_
    exact j_385_0_j423 hd hr kr
  rcases ite_some hr with ⟨h164, hr⟩ | ⟨h164, hr⟩
  · refine x_tswk rfl rfl h164 rfl ?_
    refine x_fg (Lq.s (Lq.s (Lq.n (Lq.n (Lq.n (Lq.s (Lq.s (Lq.s (Lq.n (Lq.s (Lq.s (Lq.s (Lq.s (Lq.s Lq.nil)))))))))))))) ?_
    exact j_385_0_j423 hd hr kr
  rcases ite_some hr with ⟨h165, hr⟩ | ⟨h165, hr⟩
  · refine x_tswk rfl rfl h165 rfl ?_
    refine x_fg (Lq.s (Lq.s (Lq.n (Lq.n (Lq.n (Lq.s (Lq.s (Lq.s (Lq.n (Lq.s (Lq.s (Lq.s (Lq.s (Lq.s Lq.nil)))))))))))))) ?_
    exact j_385_0_j423 hd hr kr
  rcases ite_some hr with ⟨h166, hr⟩ | ⟨h166, hr⟩
  · refine x_tswk rfl rfl h166 rfl ?_
    refine x_fg (Lq.s (Lq.s (Lq.n (Lq.n (Lq.n (Lq.s (Lq.n (Lq.n (Lq.n (Lq.s (Lq.s (Lq.s (Lq.s (Lq.s Lq.nil)))))))))))))) ?_
    exact j_385_0_j503 hd hr kr
  rcases ite_some hr with ⟨h198, hr⟩ | ⟨h198, hr⟩
  · refine x_tswk rfl rfl h198 rfl ?_
    refine x_fg (Lq.s (Lq.s (Lq.n (Lq.n (Lq.n (Lq.s (Lq.n (Lq.n (Lq.n (Lq.s (Lq.s (Lq.s (Lq.s (Lq.s Lq.nil)))))))))))))) ?_
    exact j_385_0_j580 hd hr kr
  rcases ite_some hr with ⟨h234, hr⟩ | ⟨h234, hr⟩
  · refine x_tswk rfl rfl h234 rfl ?_
    refine x_fg (Lq.s (Lq.n (Lq.n (Lq.s (Lq.s (Lq.n (Lq.n (Lq.n (Lq.s (Lq.s (Lq.s (Lq.s (Lq.s (Lq.s Lq.nil)))))))))))))) ?_
    exact j_385_0_j666 hd hr kr
  rcases ite_some hr with ⟨h275, hr⟩ | ⟨h275, hr⟩
  · refine x_tswk rfl rfl h275 rfl ?_
    refine x_fg (Lq.s (Lq.n (Lq.n (Lq.s (Lq.s (Lq.n (Lq.n (Lq.n (Lq.s (Lq.s (Lq.s (Lq.s (Lq.s (Lq.s Lq.nil)))))))))))))) ?_
    exact j_385_0_j666 hd hr kr
  refine x_tswd rfl rfl (tsw_out 14 (by decide) (fun k hk => match k, hk with | 0, _ => h19 | 1, _ => h39 | 2, _ => h40 | 3, _ => h69 | 4, _ => h70 | 5, _ => h95 | 6, _ => h96 | 7, _ => h97 | 8, _ => h126 | 9, _ => h164 | 10, _ => h165 | 11, _ => h166 | 12, _ => h198 | 13, _ => h234 | 14, _ => h275 | k + 15, hk => absurd hk (by omega))) ⟨by decide, rfl⟩ ?_
  refine x_fg (Lq.s (Lq.n (Lq.n (Lq.n (Lq.n (Lq.n (Lq.n (Lq.n (Lq.s (Lq.s (Lq.s (Lq.s (Lq.s (Lq.s Lq.nil)))))))))))))) ?_
  exact j_385_0_j803 hd hr kr
def J_385_0_j49 (B : Wd) (x0 : Nat) (x1 : Nat) (x2 : Int32) (x3 : Int32) (x4 : Int32) (x5 : Int32) (x6 : Int32) : Option (Int32 × Wd) :=
  J_385_0_j50 B x0 x1 x2 x3 x4 x5 x6 0
set_option maxRecDepth 200000 in
theorem j_385_0_j49 {d : Nat} (hd : 68 ≤ d) {scr : ASc} {res : ARe} {B : Wd} {x0 : Nat} {x1 : Nat} {x2 : Int32} {x3 : Int32} {x4 : Int32} {x5 : Int32} {x6 : Int32} {o : Int32 × Wd} (hr : J_385_0_j49 B x0 x1 x2 x3 x4 x5 x6 = some o) (kr : res = (.inl (some (.int o.1)), mk o.2, Wd.kc o.2, Wd.kn o.2)) : Ex d am_M385 scr (49, [some (.ref x0), some (.ref x1), some (.int x2), some (.int x3), some (.int x4), some (.int x5), some (.int x6), none, none, none, none, none, none, none], [], (mk B), B.kc, B.kn) res := by
  delta J_385_0_j49 at hr
  refine x_b 1 (S2 := (50, [some (.ref x0), some (.ref x1), some (.int x2), some (.int x3), some (.int x4), some (.int x5), some (.int x6), none, none, none, none, none, none, none], [.int 0], (mk B), B.kc, B.kn)) rfl ?_
  refine x_fg (Lq.s (Lq.s (Lq.s (Lq.s (Lq.s (Lq.s (Lq.s (Lq.s (Lq.s (Lq.s (Lq.s (Lq.s (Lq.s (Lq.s Lq.nil)))))))))))))) ?_
  exact j_385_0_j50 hd hr kr
/-- PebbleProofsLaw.act(LPebbleProofsLaw$Yard;LPebbleProofsLaw$Why;II)I -/
def F_385 (B : Wd) (x0 : Nat) (x1 : Nat) (x2 : Int32) (x3 : Int32) : Option (Int32 × Wd) :=
  (B.gI x0 7 0).bind fun v1 =>
  (F_382 B x3 v1).bind fun v4 =>
  (B.gI x0 7 0).bind fun v5 =>
  (F_382 B (x3 / 64) v5).bind fun v8 =>
  (B.gI x0 7 0).bind fun v9 =>
  if v9 ≤ v4 then
    J_385_0_j49 B x0 x1 x2 x3 (x3 / 64) v4 v8
  else
    (B.gI x0 7 0).bind fun v294 =>
    if v294 ≤ v8 then
      J_385_0_j49 B x0 x1 x2 x3 (x3 / 64) v4 v8
    else
      J_385_0_j50 B x0 x1 x2 x3 (x3 / 64) v4 v8 1
set_option maxRecDepth 200000 in
theorem f_385 {d : Nat} (hd : 68 ≤ d) {scr : ASc} {res : ARe} {B : Wd} {x0 : Nat} {x1 : Nat} {x2 : Int32} {x3 : Int32} {o : Int32 × Wd} (hr : F_385 B x0 x1 x2 x3 = some o) (kr : res = (.inl (some (.int o.1)), mk o.2, Wd.kc o.2, Wd.kn o.2)) : Ex d am_M385 scr (0, [some (.ref x0), some (.ref x1), some (.int x2), some (.int x3), none, none, none, none, none, none, none, none, none, none], [], (mk B), B.kc, B.kn) res := by
  delta F_385 at hr
  refine x_b 2 (S2 := (3, [some (.ref x0), some (.ref x1), some (.int x2), some (.int x3), none, none, none, none, none, none, none, none, none, none], [.int 64, .int x3], (mk B), B.kc, B.kn)) rfl ?_
  refine x_div rfl rfl (by decide) ?_
  refine x_b 3 (S2 := (8, [some (.ref x0), some (.ref x1), some (.int x2), some (.int x3), some (.int (x3 / 64)), none, none, none, none, none, none, none, none, none], [.ref x0, .int x3], (mk B), B.kc, B.kn)) rfl ?_
  obtain ⟨v1, h2, hr⟩ := bd_some hr
  refine x_gI rfl rfl h2 ?_
  obtain ⟨v4, h3, hr⟩ := bd_some hr
  refine x_cW (m_382 h3) rfl rfl rfl rfl rfl (by omega) ?_
  refine x_b 3 (S2 := (19, [some (.ref x0), some (.ref x1), some (.int x2), some (.int x3), some (.int (x3 / 64)), some (.int v4), none, none, none, none, none, none, none, none], [.ref x0, .int (x3 / 64)], (mk B), B.kc, B.kn)) rfl ?_
  obtain ⟨v5, h6, hr⟩ := bd_some hr
  refine x_gI rfl rfl h6 ?_
  obtain ⟨v8, h7, hr⟩ := bd_some hr
  refine x_cW (m_382 h7) rfl rfl rfl rfl rfl (by omega) ?_
  refine x_b 3 (S2 := (30, [some (.ref x0), some (.ref x1), some (.int x2), some (.int x3), some (.int (x3 / 64)), some (.int v4), some (.int v8), none, none, none, none, none, none, none], [.ref x0, .int v4], (mk B), B.kc, B.kn)) rfl ?_
  obtain ⟨v9, h10, hr⟩ := bd_some hr
  refine x_gI rfl rfl h10 ?_
  rcases ite_some hr with ⟨h11, hr⟩ | ⟨h11, hr⟩
  · refine x_ct rfl rfl (decide_eq_true h11) ?_
    refine x_fg (Lq.s (Lq.s (Lq.s (Lq.s (Lq.s (Lq.s (Lq.s (Lq.s (Lq.s (Lq.s (Lq.s (Lq.s (Lq.s (Lq.s Lq.nil)))))))))))))) ?_
    exact j_385_0_j49 hd hr kr
  · refine x_cf rfl rfl (decide_eq_false h11) ?_
    refine x_b 2 (S2 := (39, [some (.ref x0), some (.ref x1), some (.int x2), some (.int x3), some (.int (x3 / 64)), some (.int v4), some (.int v8), none, none, none, none, none, none, none], [.ref x0, .int v8], (mk B), B.kc, B.kn)) rfl ?_
    obtain ⟨v294, h295, hr⟩ := bd_some hr
    refine x_gI rfl rfl h295 ?_
    rcases ite_some hr with ⟨h296, hr⟩ | ⟨h296, hr⟩
    · refine x_ct rfl rfl (decide_eq_true h296) ?_
      refine x_fg (Lq.s (Lq.s (Lq.s (Lq.s (Lq.s (Lq.s (Lq.s (Lq.s (Lq.s (Lq.s (Lq.s (Lq.s (Lq.s (Lq.s Lq.nil)))))))))))))) ?_
      exact j_385_0_j49 hd hr kr
    · refine x_cf rfl rfl (decide_eq_false h296) ?_
      refine x_b 2 (S2 := (50, [some (.ref x0), some (.ref x1), some (.int x2), some (.int x3), some (.int (x3 / 64)), some (.int v4), some (.int v8), none, none, none, none, none, none, none], [.int 1], (mk B), B.kc, B.kn)) rfl ?_
      refine x_fg (Lq.s (Lq.s (Lq.s (Lq.s (Lq.s (Lq.s (Lq.s (Lq.s (Lq.s (Lq.s (Lq.s (Lq.s (Lq.s (Lq.s Lq.nil)))))))))))))) ?_
      exact j_385_0_j50 hd hr kr
set_option maxRecDepth 200000 in
theorem m_385 {scr : ASc} {B : Wd} {x0 : Nat} {x1 : Nat} {x2 : Int32} {x3 : Int32} {o : Int32 × Wd} (hr : F_385 B x0 x1 x2 x3 = some o) : RnW scr 69 385 [.ref x0, .ref x1, .int x2, .int x3] B (.inl (some (.int o.1))) o.2 :=
  x_methW (M := am_M385) rfl (show 4 ≤ 14 by decide) (f_385 (Nat.le_refl _) hr rfl)
def J_386_0_j116 (B : Wd) (x5 : Int32) (x6 : Int32) : Option (Int32 × Wd) :=
  (F_373 B x5 x6).bind fun (v18, B19) =>
  some (v18, B19)
set_option maxRecDepth 200000 in
theorem j_386_0_j116 {d : Nat} (hd : 11 ≤ d) {scr : ASc} {res : ARe} {B : Wd} {x5 : Int32} {x6 : Int32} {o : Int32 × Wd} (hr : J_386_0_j116 B x5 x6 = some o) (kr : res = (.inl (some (.int o.1)), mk o.2, Wd.kc o.2, Wd.kn o.2)) : Ex d am_M386 scr (116, [some (.ref 0), none, none, none, none, some (.int x5), some (.int x6), none], [], (mk B), B.kc, B.kn) res := by
  delta J_386_0_j116 at hr
  refine x_b 3 (S2 := (121, [some (.ref 0), none, none, none, none, some (.int x5), some (.int x6), none], [.int x6, .int x5, .ref 0], (mk B), B.kc, B.kn)) rfl ?_
  obtain ⟨⟨v18, B19⟩, h17, hr⟩ := bd_some hr
  refine x_cW (m_373 h17) rfl rfl rfl rfl rfl (by omega) ?_
  cases hr
  rw [kr]
  exact x_ret rfl rfl am_ret_i
def J_386_0_j125 (B : Wd) (x5 : Int32) (x6 : Int32) : Option (Int32 × Wd) :=
  (F_374 B x5 x6).bind fun (v23, B24) =>
  some (v23, B24)
set_option maxRecDepth 200000 in
theorem j_386_0_j125 {d : Nat} (hd : 11 ≤ d) {scr : ASc} {res : ARe} {B : Wd} {x5 : Int32} {x6 : Int32} {o : Int32 × Wd} (hr : J_386_0_j125 B x5 x6 = some o) (kr : res = (.inl (some (.int o.1)), mk o.2, Wd.kc o.2, Wd.kn o.2)) : Ex d am_M386 scr (125, [some (.ref 0), none, none, none, none, some (.int x5), some (.int x6), none], [], (mk B), B.kc, B.kn) res := by
  delta J_386_0_j125 at hr
  refine x_b 3 (S2 := (130, [some (.ref 0), none, none, none, none, some (.int x5), some (.int x6), none], [.int x6, .int x5, .ref 0], (mk B), B.kc, B.kn)) rfl ?_
  obtain ⟨⟨v23, B24⟩, h22, hr⟩ := bd_some hr
  refine x_cW (m_374 h22) rfl rfl rfl rfl rfl (by omega) ?_
  cases hr
  rw [kr]
  exact x_ret rfl rfl am_ret_i
def J_386_0_j153 (B : Wd) (t0 : Int32) (t1 : Int32) (t2 : Int32) (t3 : Int32) : Option (Int32 × Wd) :=
  (F_383 B t2 t1 t0).bind fun v29 =>
  (F_370 B t3 v29).bind fun (v31, B32) =>
  some (v31, B32)
set_option maxRecDepth 200000 in
theorem j_386_0_j153 {d : Nat} (hd : 11 ≤ d) {scr : ASc} {res : ARe} {B : Wd} {t0 : Int32} {t1 : Int32} {t2 : Int32} {t3 : Int32} {o : Int32 × Wd} (hr : J_386_0_j153 B t0 t1 t2 t3 = some o) (kr : res = (.inl (some (.int o.1)), mk o.2, Wd.kc o.2, Wd.kn o.2)) : Ex d am_M386 scr (153, [none, none, none, none, none, none, none, none], [.int t0, .int t1, .int t2, .int t3, .ref 0], (mk B), B.kc, B.kn) res := by
  delta J_386_0_j153 at hr
  obtain ⟨v29, h28, hr⟩ := bd_some hr
  refine x_cW (m_383 h28) rfl rfl rfl rfl rfl (by omega) ?_
  obtain ⟨⟨v31, B32⟩, h30, hr⟩ := bd_some hr
  refine x_cW (m_370 h30) rfl rfl rfl rfl rfl (by omega) ?_
  cases hr
  rw [kr]
  exact x_ret rfl rfl am_ret_i
def J_386_0_j134 (B : Wd) (x4 : Int32) (x5 : Int32) : Option (Int32 × Wd) :=
  if ¬ (x4 - x4 / 4 * 4) = 0 then
    J_386_0_j153 B 5 1 x4 x5
  else
    J_386_0_j153 B 99 1 x4 x5
set_option maxRecDepth 200000 in
theorem j_386_0_j134 {d : Nat} (hd : 11 ≤ d) {scr : ASc} {res : ARe} {B : Wd} {x4 : Int32} {x5 : Int32} {o : Int32 × Wd} (hr : J_386_0_j134 B x4 x5 = some o) (kr : res = (.inl (some (.int o.1)), mk o.2, Wd.kc o.2, Wd.kn o.2)) : Ex d am_M386 scr (134, [some (.ref 0), none, none, none, some (.int x4), some (.int x5), none, none], [], (mk B), B.kc, B.kn) res := by
  delta J_386_0_j134 at hr
  refine x_b 6 (S2 := (143, [some (.ref 0), none, none, none, some (.int x4), some (.int x5), none, none], [.int 4, .int x4, .int 1, .int x4, .int x5, .ref 0], (mk B), B.kc, B.kn)) rfl ?_
  refine x_rem rfl rfl (by decide) ?_
  rcases ite_some hr with ⟨h27, hr⟩ | ⟨h27, hr⟩
  · refine x_zt rfl rfl (decide_eq_true h27) ?_
    refine x_b 1 (S2 := (153, [some (.ref 0), none, none, none, some (.int x4), some (.int x5), none, none], [.int 5, .int 1, .int x4, .int x5, .ref 0], (mk B), B.kc, B.kn)) rfl ?_
    refine x_fg (Lq.n (Lq.s (Lq.s (Lq.s (Lq.n (Lq.n (Lq.s (Lq.s Lq.nil)))))))) ?_
    exact j_386_0_j153 hd hr kr
  · refine x_zf rfl rfl (decide_eq_false h27) ?_
    refine x_b 2 (S2 := (153, [some (.ref 0), none, none, none, some (.int x4), some (.int x5), none, none], [.int 99, .int 1, .int x4, .int x5, .ref 0], (mk B), B.kc, B.kn)) rfl ?_
    refine x_fg (Lq.n (Lq.s (Lq.s (Lq.s (Lq.n (Lq.n (Lq.s (Lq.s Lq.nil)))))))) ?_
    exact j_386_0_j153 hd hr kr
def J_386_0_j179 (B : Wd) (t0 : Int32) (t1 : Int32) (t2 : Int32) (t3 : Int32) : Option (Int32 × Wd) :=
  (F_383 B t2 t1 t0).bind fun v38 =>
  (F_375 B t3 v38).bind fun (v40, B41) =>
  some (v40, B41)
set_option maxRecDepth 200000 in
theorem j_386_0_j179 {d : Nat} (hd : 11 ≤ d) {scr : ASc} {res : ARe} {B : Wd} {t0 : Int32} {t1 : Int32} {t2 : Int32} {t3 : Int32} {o : Int32 × Wd} (hr : J_386_0_j179 B t0 t1 t2 t3 = some o) (kr : res = (.inl (some (.int o.1)), mk o.2, Wd.kc o.2, Wd.kn o.2)) : Ex d am_M386 scr (179, [none, none, none, none, none, none, none, none], [.int t0, .int t1, .int t2, .int t3, .ref 0], (mk B), B.kc, B.kn) res := by
  delta J_386_0_j179 at hr
  obtain ⟨v38, h37, hr⟩ := bd_some hr
  refine x_cW (m_383 h37) rfl rfl rfl rfl rfl (by omega) ?_
  obtain ⟨⟨v40, B41⟩, h39, hr⟩ := bd_some hr
  refine x_cW (m_375 h39) rfl rfl rfl rfl rfl (by omega) ?_
  cases hr
  rw [kr]
  exact x_ret rfl rfl am_ret_i
def J_386_0_j160 (B : Wd) (x4 : Int32) (x5 : Int32) : Option (Int32 × Wd) :=
  if ¬ (x4 - x4 / 4 * 4) = 0 then
    J_386_0_j179 B 3 1 x4 x5
  else
    J_386_0_j179 B 99 1 x4 x5
set_option maxRecDepth 200000 in
theorem j_386_0_j160 {d : Nat} (hd : 11 ≤ d) {scr : ASc} {res : ARe} {B : Wd} {x4 : Int32} {x5 : Int32} {o : Int32 × Wd} (hr : J_386_0_j160 B x4 x5 = some o) (kr : res = (.inl (some (.int o.1)), mk o.2, Wd.kc o.2, Wd.kn o.2)) : Ex d am_M386 scr (160, [some (.ref 0), none, none, none, some (.int x4), some (.int x5), none, none], [], (mk B), B.kc, B.kn) res := by
  delta J_386_0_j160 at hr
  refine x_b 6 (S2 := (169, [some (.ref 0), none, none, none, some (.int x4), some (.int x5), none, none], [.int 4, .int x4, .int 1, .int x4, .int x5, .ref 0], (mk B), B.kc, B.kn)) rfl ?_
  refine x_rem rfl rfl (by decide) ?_
  rcases ite_some hr with ⟨h36, hr⟩ | ⟨h36, hr⟩
  · refine x_zt rfl rfl (decide_eq_true h36) ?_
    refine x_b 1 (S2 := (179, [some (.ref 0), none, none, none, some (.int x4), some (.int x5), none, none], [.int 3, .int 1, .int x4, .int x5, .ref 0], (mk B), B.kc, B.kn)) rfl ?_
    refine x_fg (Lq.n (Lq.s (Lq.s (Lq.s (Lq.n (Lq.n (Lq.s (Lq.s Lq.nil)))))))) ?_
    exact j_386_0_j179 hd hr kr
  · refine x_zf rfl rfl (decide_eq_false h36) ?_
    refine x_b 2 (S2 := (179, [some (.ref 0), none, none, none, some (.int x4), some (.int x5), none, none], [.int 99, .int 1, .int x4, .int x5, .ref 0], (mk B), B.kc, B.kn)) rfl ?_
    refine x_fg (Lq.n (Lq.s (Lq.s (Lq.s (Lq.n (Lq.n (Lq.s (Lq.s Lq.nil)))))))) ?_
    exact j_386_0_j179 hd hr kr
def J_386_0_j186 (B : Wd) (x5 : Int32) (x6 : Int32) : Option (Int32 × Wd) :=
  (F_371 B x5 x6).bind fun (v44, B45) =>
  some (v44, B45)
set_option maxRecDepth 200000 in
theorem j_386_0_j186 {d : Nat} (hd : 11 ≤ d) {scr : ASc} {res : ARe} {B : Wd} {x5 : Int32} {x6 : Int32} {o : Int32 × Wd} (hr : J_386_0_j186 B x5 x6 = some o) (kr : res = (.inl (some (.int o.1)), mk o.2, Wd.kc o.2, Wd.kn o.2)) : Ex d am_M386 scr (186, [some (.ref 0), none, none, none, none, some (.int x5), some (.int x6), none], [], (mk B), B.kc, B.kn) res := by
  delta J_386_0_j186 at hr
  refine x_b 3 (S2 := (191, [some (.ref 0), none, none, none, none, some (.int x5), some (.int x6), none], [.int x6, .int x5, .ref 0], (mk B), B.kc, B.kn)) rfl ?_
  obtain ⟨⟨v44, B45⟩, h43, hr⟩ := bd_some hr
  refine x_cW (m_371 h43) rfl rfl rfl rfl rfl (by omega) ?_
  cases hr
  rw [kr]
  exact x_ret rfl rfl am_ret_i
def J_386_0_j195 (B : Wd) (x5 : Int32) : Option (Int32 × Wd) :=
  (F_372 B x5).bind fun (v50, B51) =>
  some (v50, B51)
set_option maxRecDepth 200000 in
theorem j_386_0_j195 {d : Nat} (hd : 11 ≤ d) {scr : ASc} {res : ARe} {B : Wd} {x5 : Int32} {o : Int32 × Wd} (hr : J_386_0_j195 B x5 = some o) (kr : res = (.inl (some (.int o.1)), mk o.2, Wd.kc o.2, Wd.kn o.2)) : Ex d am_M386 scr (195, [some (.ref 0), none, none, none, none, some (.int x5), none, none], [], (mk B), B.kc, B.kn) res := by
  delta J_386_0_j195 at hr
  refine x_b 2 (S2 := (198, [some (.ref 0), none, none, none, none, some (.int x5), none, none], [.int x5, .ref 0], (mk B), B.kc, B.kn)) rfl ?_
  obtain ⟨⟨v50, B51⟩, h49, hr⟩ := bd_some hr
  refine x_cW (m_372 h49) rfl rfl rfl rfl rfl (by omega) ?_
  cases hr
  rw [kr]
  exact x_ret rfl rfl am_ret_i
def J_386_0_j202 (B : Wd) (x5 : Int32) : Option (Int32 × Wd) :=
  (F_376 B x5).bind fun (v54, B55) =>
  some (v54, B55)
set_option maxRecDepth 200000 in
theorem j_386_0_j202 {d : Nat} (hd : 11 ≤ d) {scr : ASc} {res : ARe} {B : Wd} {x5 : Int32} {o : Int32 × Wd} (hr : J_386_0_j202 B x5 = some o) (kr : res = (.inl (some (.int o.1)), mk o.2, Wd.kc o.2, Wd.kn o.2)) : Ex d am_M386 scr (202, [some (.ref 0), none, none, none, none, some (.int x5), none, none], [], (mk B), B.kc, B.kn) res := by
  delta J_386_0_j202 at hr
  refine x_b 2 (S2 := (205, [some (.ref 0), none, none, none, none, some (.int x5), none, none], [.int x5, .ref 0], (mk B), B.kc, B.kn)) rfl ?_
  obtain ⟨⟨v54, B55⟩, h53, hr⟩ := bd_some hr
  refine x_cW (m_376 h53) rfl rfl rfl rfl rfl (by omega) ?_
  cases hr
  rw [kr]
  exact x_ret rfl rfl am_ret_i
def J_386_0_j209 (B : Wd) (x1 : Nat) (x3 : Int32) (x4 : Int32) (x7 : Int32) : Option (Int32 × Wd) :=
  (B.gI x1 7 0).bind fun v57 =>
  (F_382 B x4 v57).bind fun v60 =>
  (B.gI x1 7 0).bind fun v61 =>
  (F_382 B (x3 / 9) v61).bind fun v64 =>
  (F_383 B (x4 / 5) 0 64).bind fun v66 =>
  (F_377 B x7 v60 v64 v66).bind fun (v68, B69) =>
  some (v68, B69)
set_option maxRecDepth 200000 in
theorem j_386_0_j209 {d : Nat} (hd : 11 ≤ d) {scr : ASc} {res : ARe} {B : Wd} {x1 : Nat} {x3 : Int32} {x4 : Int32} {x7 : Int32} {o : Int32 × Wd} (hr : J_386_0_j209 B x1 x3 x4 x7 = some o) (kr : res = (.inl (some (.int o.1)), mk o.2, Wd.kc o.2, Wd.kn o.2)) : Ex d am_M386 scr (209, [some (.ref 0), some (.ref x1), none, some (.int x3), some (.int x4), none, none, some (.int x7)], [], (mk B), B.kc, B.kn) res := by
  delta J_386_0_j209 at hr
  refine x_b 4 (S2 := (215, [some (.ref 0), some (.ref x1), none, some (.int x3), some (.int x4), none, none, some (.int x7)], [.ref x1, .int x4, .int x7, .ref 0], (mk B), B.kc, B.kn)) rfl ?_
  obtain ⟨v57, h58, hr⟩ := bd_some hr
  refine x_gI rfl rfl h58 ?_
  obtain ⟨v60, h59, hr⟩ := bd_some hr
  refine x_cW (m_382 h59) rfl rfl rfl rfl rfl (by omega) ?_
  refine x_b 2 (S2 := (224, [some (.ref 0), some (.ref x1), none, some (.int x3), some (.int x4), none, none, some (.int x7)], [.int 9, .int x3, .int v60, .int x7, .ref 0], (mk B), B.kc, B.kn)) rfl ?_
  refine x_div rfl rfl (by decide) ?_
  refine x_b 1 (S2 := (226, [some (.ref 0), some (.ref x1), none, some (.int x3), some (.int x4), none, none, some (.int x7)], [.ref x1, .int (x3 / 9), .int v60, .int x7, .ref 0], (mk B), B.kc, B.kn)) rfl ?_
  obtain ⟨v61, h62, hr⟩ := bd_some hr
  refine x_gI rfl rfl h62 ?_
  obtain ⟨v64, h63, hr⟩ := bd_some hr
  refine x_cW (m_382 h63) rfl rfl rfl rfl rfl (by omega) ?_
  refine x_b 2 (S2 := (235, [some (.ref 0), some (.ref x1), none, some (.int x3), some (.int x4), none, none, some (.int x7)], [.int 5, .int x4, .int v64, .int v60, .int x7, .ref 0], (mk B), B.kc, B.kn)) rfl ?_
  refine x_div rfl rfl (by decide) ?_
  refine x_b 2 (S2 := (239, [some (.ref 0), some (.ref x1), none, some (.int x3), some (.int x4), none, none, some (.int x7)], [.int 64, .int 0, .int (x4 / 5), .int v64, .int v60, .int x7, .ref 0], (mk B), B.kc, B.kn)) rfl ?_
  obtain ⟨v66, h65, hr⟩ := bd_some hr
  refine x_cW (m_383 h65) rfl rfl rfl rfl rfl (by omega) ?_
  obtain ⟨⟨v68, B69⟩, h67, hr⟩ := bd_some hr
  refine x_cW (m_377 h67) rfl rfl rfl rfl rfl (by omega) ?_
  cases hr
  rw [kr]
  exact x_ret rfl rfl am_ret_i
def J_386_0_j246 (B : Wd) (x7 : Int32) : Option (Int32 × Wd) :=
  (F_378 B x7).bind fun (v72, B73) =>
  some (v72, B73)
set_option maxRecDepth 200000 in
theorem j_386_0_j246 {d : Nat} (hd : 11 ≤ d) {scr : ASc} {res : ARe} {B : Wd} {x7 : Int32} {o : Int32 × Wd} (hr : J_386_0_j246 B x7 = some o) (kr : res = (.inl (some (.int o.1)), mk o.2, Wd.kc o.2, Wd.kn o.2)) : Ex d am_M386 scr (246, [some (.ref 0), none, none, none, none, none, none, some (.int x7)], [], (mk B), B.kc, B.kn) res := by
  delta J_386_0_j246 at hr
  refine x_b 2 (S2 := (249, [some (.ref 0), none, none, none, none, none, none, some (.int x7)], [.int x7, .ref 0], (mk B), B.kc, B.kn)) rfl ?_
  obtain ⟨⟨v72, B73⟩, h71, hr⟩ := bd_some hr
  refine x_cW (m_378 h71) rfl rfl rfl rfl rfl (by omega) ?_
  cases hr
  rw [kr]
  exact x_ret rfl rfl am_ret_i
/-- PebbleProofsLaw.call(LPebbleProofs;LPebbleProofsLaw$Yard;II)I -/
def F_386 (B : Wd) (x1 : Nat) (x2 : Int32) (x3 : Int32) : Option (Int32 × Wd) :=
  (B.gI x1 7 0).bind fun v1 =>
  (F_382 B x3 v1).bind fun v4 =>
  (B.gI x1 7 0).bind fun v5 =>
  (F_382 B (x3 / 64) v5).bind fun v8 =>
  (B.gR x1 7 4).bind fun v9 =>
  (B.rc v9 10).bind fun _ =>
  (F_349 B v9).bind fun v13 =>
  (F_382 B x3 v13).bind fun v15 =>
  if x2 = 0 then
    J_386_0_j116 B v4 v8
  else if x2 = 1 then
    J_386_0_j116 B v4 v8
  else if x2 = 2 then
    J_386_0_j125 B v4 v8
  else if x2 = 3 then
    J_386_0_j125 B v4 v8
  else if x2 = 4 then
    J_386_0_j134 B (x3 / 64) v4
  else if x2 = 5 then
    J_386_0_j134 B (x3 / 64) v4
  else if x2 = 6 then
    J_386_0_j134 B (x3 / 64) v4
  else if x2 = 7 then
    J_386_0_j160 B (x3 / 64) v4
  else if x2 = 8 then
    J_386_0_j186 B v4 v8
  else if x2 = 9 then
    J_386_0_j186 B v4 v8
  else if x2 = 10 then
    J_386_0_j186 B v4 v8
  else if x2 = 11 then
    J_386_0_j195 B v4
  else if x2 = 12 then
    J_386_0_j202 B v4
  else if x2 = 13 then
    J_386_0_j209 B x1 x3 (x3 / 64) v15
  else if x2 = 14 then
    J_386_0_j209 B x1 x3 (x3 / 64) v15
  else 
    J_386_0_j246 B v15
set_option maxRecDepth 200000 in
theorem f_386 {d : Nat} (hd : 11 ≤ d) {scr : ASc} {res : ARe} {B : Wd} {x1 : Nat} {x2 : Int32} {x3 : Int32} {o : Int32 × Wd} (hr : F_386 B x1 x2 x3 = some o) (kr : res = (.inl (some (.int o.1)), mk o.2, Wd.kc o.2, Wd.kn o.2)) : Ex d am_M386 scr (0, [some (.ref 0), some (.ref x1), some (.int x2), some (.int x3), none, none, none, none], [], (mk B), B.kc, B.kn) res := by
  delta F_386 at hr
  refine x_b 2 (S2 := (3, [some (.ref 0), some (.ref x1), some (.int x2), some (.int x3), none, none, none, none], [.int 64, .int x3], (mk B), B.kc, B.kn)) rfl ?_
  refine x_div rfl rfl (by decide) ?_
  refine x_b 3 (S2 := (8, [some (.ref 0), some (.ref x1), some (.int x2), some (.int x3), some (.int (x3 / 64)), none, none, none], [.ref x1, .int x3], (mk B), B.kc, B.kn)) rfl ?_
  obtain ⟨v1, h2, hr⟩ := bd_some hr
  refine x_gI rfl rfl h2 ?_
  obtain ⟨v4, h3, hr⟩ := bd_some hr
  refine x_cW (m_382 h3) rfl rfl rfl rfl rfl (by omega) ?_
  refine x_b 3 (S2 := (19, [some (.ref 0), some (.ref x1), some (.int x2), some (.int x3), some (.int (x3 / 64)), some (.int v4), none, none], [.ref x1, .int (x3 / 64)], (mk B), B.kc, B.kn)) rfl ?_
  obtain ⟨v5, h6, hr⟩ := bd_some hr
  refine x_gI rfl rfl h6 ?_
  obtain ⟨v8, h7, hr⟩ := bd_some hr
  refine x_cW (m_382 h7) rfl rfl rfl rfl rfl (by omega) ?_
  refine x_b 3 (S2 := (29, [some (.ref 0), some (.ref x1), some (.int x2), some (.int x3), some (.int (x3 / 64)), some (.int v4), some (.int v8), none], [.ref x1, .int x3], (mk B), B.kc, B.kn)) rfl ?_
  obtain ⟨v9, h10, hr⟩ := bd_some hr
  refine x_gR rfl rfl h10 ?_
  obtain ⟨uh11, h11, hr⟩ := bd_some hr
  obtain ⟨v13, h12, hr⟩ := bd_some hr
  refine x_cW (m_349 h12) rfl rfl rfl rfl (am_recv_c h11 (.inl rfl)) (by omega) ?_
  obtain ⟨v15, h14, hr⟩ := bd_some hr
  refine x_cW (m_382 h14) rfl rfl rfl rfl rfl (by omega) ?_
  refine x_b 2 (S2 := (41, [some (.ref 0), some (.ref x1), some (.int x2), some (.int x3), some (.int (x3 / 64)), some (.int v4), some (.int v8), some (.int v15)], [.int x2], (mk B), B.kc, B.kn)) rfl ?_
  rcases ite_some hr with ⟨h16, hr⟩ | ⟨h16, hr⟩
  · refine x_tswk rfl rfl h16 rfl ?_
    refine x_fg (Lq.s (Lq.n (Lq.n (Lq.n (Lq.n (Lq.s (Lq.s (Lq.n Lq.nil)))))))) ?_
    exact j_386_0_j116 hd hr kr
  rcases ite_some hr with ⟨h20, hr⟩ | ⟨h20, hr⟩
  · refine x_tswk rfl rfl h20 rfl ?_
    refine x_fg (Lq.s (Lq.n (Lq.n (Lq.n (Lq.n (Lq.s (Lq.s (Lq.n Lq.nil)))))))) ?_
    exact j_386_0_j116 hd hr kr
  rcases ite_some hr with ⟨h21, hr⟩ | ⟨h21, hr⟩
  · refine x_tswk rfl rfl h21 rfl ?_
    refine x_fg (Lq.s (Lq.n (Lq.n (Lq.n (Lq.n (Lq.s (Lq.s (Lq.n Lq.nil)))))))) ?_
    exact j_386_0_j125 hd hr kr
  rcases ite_some hr with ⟨h25, hr⟩ | ⟨h25, hr⟩
  · refine x_tswk rfl rfl h25 rfl ?_
    refine x_fg (Lq.s (Lq.n (Lq.n (Lq.n (Lq.n (Lq.s (Lq.s (Lq.n Lq.nil)))))))) ?_
    exact j_386_0_j125 hd hr kr
  rcases ite_some hr with ⟨h26, hr⟩ | ⟨h26, hr⟩
  · refine x_tswk rfl rfl h26 rfl ?_
    refine x_fg (Lq.s (Lq.n (Lq.n (Lq.n (Lq.s (Lq.s (Lq.n (Lq.n Lq.nil)))))))) ?_
    exact j_386_0_j134 hd hr kr
  rcases ite_some hr with ⟨h33, hr⟩ | ⟨h33, hr⟩
  · refine x_tswk rfl rfl h33 rfl ?_
    refine x_fg (Lq.s (Lq.n (Lq.n (Lq.n (Lq.s (Lq.s (Lq.n (Lq.n Lq.nil)))))))) ?_
    exact j_386_0_j134 hd hr kr
  rcases ite_some hr with ⟨h34, hr⟩ | ⟨h34, hr⟩
  · refine x_tswk rfl rfl h34 rfl ?_
    refine x_fg (Lq.s (Lq.n (Lq.n (Lq.n (Lq.s (Lq.s (Lq.n (Lq.n Lq.nil)))))))) ?_
    exact j_386_0_j134 hd hr kr
  rcases ite_some hr with ⟨h35, hr⟩ | ⟨h35, hr⟩
  · refine x_tswk rfl rfl h35 rfl ?_
    refine x_fg (Lq.s (Lq.n (Lq.n (Lq.n (Lq.s (Lq.s (Lq.n (Lq.n Lq.nil)))))))) ?_
    exact j_386_0_j160 hd hr kr
  rcases ite_some hr with ⟨h42, hr⟩ | ⟨h42, hr⟩
  · refine x_tswk rfl rfl h42 rfl ?_
    refine x_fg (Lq.s (Lq.n (Lq.n (Lq.n (Lq.n (Lq.s (Lq.s (Lq.n Lq.nil)))))))) ?_
    exact j_386_0_j186 hd hr kr
  rcases ite_some hr with ⟨h46, hr⟩ | ⟨h46, hr⟩
  · refine x_tswk rfl rfl h46 rfl ?_
    refine x_fg (Lq.s (Lq.n (Lq.n (Lq.n (Lq.n (Lq.s (Lq.s (Lq.n Lq.nil)))))))) ?_
    exact j_386_0_j186 hd hr kr
  rcases ite_some hr with ⟨h47, hr⟩ | ⟨h47, hr⟩
  · refine x_tswk rfl rfl h47 rfl ?_
    refine x_fg (Lq.s (Lq.n (Lq.n (Lq.n (Lq.n (Lq.s (Lq.s (Lq.n Lq.nil)))))))) ?_
    exact j_386_0_j186 hd hr kr
  rcases ite_some hr with ⟨h48, hr⟩ | ⟨h48, hr⟩
  · refine x_tswk rfl rfl h48 rfl ?_
    refine x_fg (Lq.s (Lq.n (Lq.n (Lq.n (Lq.n (Lq.s (Lq.n (Lq.n Lq.nil)))))))) ?_
    exact j_386_0_j195 hd hr kr
  rcases ite_some hr with ⟨h52, hr⟩ | ⟨h52, hr⟩
  · refine x_tswk rfl rfl h52 rfl ?_
    refine x_fg (Lq.s (Lq.n (Lq.n (Lq.n (Lq.n (Lq.s (Lq.n (Lq.n Lq.nil)))))))) ?_
    exact j_386_0_j202 hd hr kr
  rcases ite_some hr with ⟨h56, hr⟩ | ⟨h56, hr⟩
  · refine x_tswk rfl rfl h56 rfl ?_
    refine x_fg (Lq.s (Lq.s (Lq.n (Lq.s (Lq.s (Lq.n (Lq.n (Lq.s Lq.nil)))))))) ?_
    exact j_386_0_j209 hd hr kr
  rcases ite_some hr with ⟨h70, hr⟩ | ⟨h70, hr⟩
  · refine x_tswk rfl rfl h70 rfl ?_
    refine x_fg (Lq.s (Lq.s (Lq.n (Lq.s (Lq.s (Lq.n (Lq.n (Lq.s Lq.nil)))))))) ?_
    exact j_386_0_j209 hd hr kr
  refine x_tswd rfl rfl (tsw_out 14 (by decide) (fun k hk => match k, hk with | 0, _ => h16 | 1, _ => h20 | 2, _ => h21 | 3, _ => h25 | 4, _ => h26 | 5, _ => h33 | 6, _ => h34 | 7, _ => h35 | 8, _ => h42 | 9, _ => h46 | 10, _ => h47 | 11, _ => h48 | 12, _ => h52 | 13, _ => h56 | 14, _ => h70 | k + 15, hk => absurd hk (by omega))) ⟨by decide, rfl⟩ ?_
  refine x_fg (Lq.s (Lq.n (Lq.n (Lq.n (Lq.n (Lq.n (Lq.n (Lq.s Lq.nil)))))))) ?_
  exact j_386_0_j246 hd hr kr
set_option maxRecDepth 200000 in
theorem m_386 {scr : ASc} {B : Wd} {x1 : Nat} {x2 : Int32} {x3 : Int32} {o : Int32 × Wd} (hr : F_386 B x1 x2 x3 = some o) : RnW scr 12 386 [.ref 0, .ref x1, .int x2, .int x3] B (.inl (some (.int o.1))) o.2 :=
  x_methW (M := am_M386) rfl (show 4 ≤ 8 by decide) (f_386 (Nat.le_refl _) hr rfl)
def J_387_0_j30 (B : Wd) (t0 : Int32) : Option (Int32 × Wd) :=
  (if t0 = 0 ∨ t0 = 1 then some () else none).bind fun _ =>
  some (t0, B)
set_option maxRecDepth 200000 in
theorem j_387_0_j30 {d : Nat} (hd : 11 ≤ d) {scr : ASc} {res : ARe} {B : Wd} {t0 : Int32} {o : Int32 × Wd} (hr : J_387_0_j30 B t0 = some o) (kr : res = (.inl (some (.int o.1)), mk o.2, Wd.kc o.2, Wd.kn o.2)) : Ex d am_M387 scr (30, [none, none, none], [.int t0], (mk B), B.kc, B.kn) res := by
  delta J_387_0_j30 at hr
  obtain ⟨uh6, h6, hr⟩ := bd_some hr
  obtain ⟨h5, -⟩ := itn_some h6
  cases hr
  rw [kr]
  exact x_ret rfl rfl (am_ret_z h5)
def J_387_0_j29 (B : Wd) : Option (Int32 × Wd) :=
  J_387_0_j30 B 0
set_option maxRecDepth 200000 in
theorem j_387_0_j29 {d : Nat} (hd : 11 ≤ d) {scr : ASc} {res : ARe} {B : Wd} {o : Int32 × Wd} (hr : J_387_0_j29 B = some o) (kr : res = (.inl (some (.int o.1)), mk o.2, Wd.kc o.2, Wd.kn o.2)) : Ex d am_M387 scr (29, [none, none, none], [], (mk B), B.kc, B.kn) res := by
  delta J_387_0_j29 at hr
  refine x_b 1 (S2 := (30, [none, none, none], [.int 0], (mk B), B.kc, B.kn)) rfl ?_
  refine x_fg (Lq.s (Lq.s (Lq.s Lq.nil))) ?_
  exact j_387_0_j30 hd hr kr
/-- PebbleProofsLaw.isWrong(LPebbleProofs;Ljava/lang/String;I)Z -/
def F_387 (B : Wd) (x1 : Nat) (x2 : Int32) : Option (Int32 × Wd) :=
  (F_369 B x1).bind fun (v2, B3) =>
  if v2 = 0 then
    J_387_0_j29 B3
  else
    (F_82 B3).bind fun (v8, B9) =>
    if ¬ v8 = x2 then
      J_387_0_j29 B9
    else
      (F_368 B9).bind fun (v12, B13) =>
      if ¬ v12 = (3294967294 : Int32) then
        J_387_0_j29 B13
      else
        J_387_0_j30 B13 1
set_option maxRecDepth 200000 in
theorem f_387 {d : Nat} (hd : 11 ≤ d) {scr : ASc} {res : ARe} {B : Wd} {x1 : Nat} {x2 : Int32} {o : Int32 × Wd} (hr : F_387 B x1 x2 = some o) (kr : res = (.inl (some (.int o.1)), mk o.2, Wd.kc o.2, Wd.kn o.2)) : Ex d am_M387 scr (0, [some (.ref 0), some (.ref x1), some (.int x2)], [], (mk B), B.kc, B.kn) res := by
  delta F_387 at hr
  refine x_b 2 (S2 := (2, [some (.ref 0), some (.ref x1), some (.int x2)], [.ref x1, .ref 0], (mk B), B.kc, B.kn)) rfl ?_
  obtain ⟨⟨v2, B3⟩, h1, hr⟩ := bd_some hr
  refine x_cW (m_369 h1) rfl rfl rfl rfl rfl (by omega) ?_
  rcases ite_some hr with ⟨h4, hr⟩ | ⟨h4, hr⟩
  · refine x_zt rfl rfl (decide_eq_true h4) ?_
    refine x_fg (Lq.n (Lq.n (Lq.n Lq.nil))) ?_
    exact j_387_0_j29 hd hr kr
  · refine x_zf rfl rfl (decide_eq_false h4) ?_
    refine x_b 1 (S2 := (9, [some (.ref 0), some (.ref x1), some (.int x2)], [.ref 0], (mk B3), B3.kc, B3.kn)) rfl ?_
    obtain ⟨⟨v8, B9⟩, h7, hr⟩ := bd_some hr
    refine x_cW (m_82 h7) rfl rfl rfl rfl (am_recv_v ((rg_pp (W := B3)).lt (i := 0) (show 0 < 1 by decide)) ((rg_pp (W := B3)).at (i := 0) rfl) rfl) (by omega) ?_
    refine x_b 1 (S2 := (13, [some (.ref 0), some (.ref x1), some (.int x2)], [.int x2, .int v8], (mk B9), B9.kc, B9.kn)) rfl ?_
    rcases ite_some hr with ⟨h10, hr⟩ | ⟨h10, hr⟩
    · refine x_ct rfl rfl (decide_eq_true h10) ?_
      refine x_fg (Lq.n (Lq.n (Lq.n Lq.nil))) ?_
      exact j_387_0_j29 hd hr kr
    · refine x_cf rfl rfl (decide_eq_false h10) ?_
      refine x_b 1 (S2 := (17, [some (.ref 0), some (.ref x1), some (.int x2)], [.ref 0], (mk B9), B9.kc, B9.kn)) rfl ?_
      obtain ⟨⟨v12, B13⟩, h11, hr⟩ := bd_some hr
      refine x_cW (m_368 h11) rfl rfl rfl rfl rfl (by omega) ?_
      refine x_b 1 (S2 := (22, [some (.ref 0), some (.ref x1), some (.int x2)], [.int (3294967294 : Int32), .int v12], (mk B13), B13.kc, B13.kn)) rfl ?_
      rcases ite_some hr with ⟨h14, hr⟩ | ⟨h14, hr⟩
      · refine x_ct rfl rfl (decide_eq_true h14) ?_
        refine x_fg (Lq.n (Lq.n (Lq.n Lq.nil))) ?_
        exact j_387_0_j29 hd hr kr
      · refine x_cf rfl rfl (decide_eq_false h14) ?_
        refine x_b 2 (S2 := (30, [some (.ref 0), some (.ref x1), some (.int x2)], [.int 1], (mk B13), B13.kc, B13.kn)) rfl ?_
        refine x_fg (Lq.n (Lq.n (Lq.n Lq.nil))) ?_
        exact j_387_0_j30 hd hr kr
set_option maxRecDepth 200000 in
theorem m_387 {scr : ASc} {B : Wd} {x1 : Nat} {x2 : Int32} {o : Int32 × Wd} (hr : F_387 B x1 x2 = some o) : RnW scr 12 387 [.ref 0, .ref x1, .int x2] B (.inl (some (.int o.1))) o.2 :=
  x_methW (M := am_M387) rfl (show 3 ≤ 3 by decide) (f_387 (Nat.le_refl _) hr rfl)
def J_388_0_j260 (B : Wd) (t0 : Int32) : Option (Int32 × Wd) :=
  (if t0 = 0 ∨ t0 = 1 then some () else none).bind fun _ =>
  some (t0, B)
set_option maxRecDepth 200000 in
theorem j_388_0_j260 {d : Nat} (hd : 12 ≤ d) {scr : ASc} {res : ARe} {B : Wd} {t0 : Int32} {o : Int32 × Wd} (hr : J_388_0_j260 B t0 = some o) (kr : res = (.inl (some (.int o.1)), mk o.2, Wd.kc o.2, Wd.kn o.2)) : Ex d am_M388 scr (260, [none, none], [.int t0], (mk B), B.kc, B.kn) res := by
  delta J_388_0_j260 at hr
  obtain ⟨uh9, h9, hr⟩ := bd_some hr
  obtain ⟨h8, -⟩ := itn_some h9
  cases hr
  rw [kr]
  exact x_ret rfl rfl (am_ret_z h8)
def J_388_0_j259 (B : Wd) : Option (Int32 × Wd) :=
  J_388_0_j260 B 0
set_option maxRecDepth 200000 in
theorem j_388_0_j259 {d : Nat} (hd : 12 ≤ d) {scr : ASc} {res : ARe} {B : Wd} {o : Int32 × Wd} (hr : J_388_0_j259 B = some o) (kr : res = (.inl (some (.int o.1)), mk o.2, Wd.kc o.2, Wd.kn o.2)) : Ex d am_M388 scr (259, [none, none], [], (mk B), B.kc, B.kn) res := by
  delta J_388_0_j259 at hr
  refine x_b 1 (S2 := (260, [none, none], [.int 0], (mk B), B.kc, B.kn)) rfl ?_
  refine x_fg (Lq.s (Lq.s Lq.nil)) ?_
  exact j_388_0_j260 hd hr kr
def J_388_0_j202 (B : Wd) (t0 : Int32) : Option (Int32 × Wd) :=
  if t0 = 0 then
    J_388_0_j259 B
  else
    (F_387 B (am_SB + 10 + 2 * 19) 34).bind fun (v11, B12) =>
    if v11 = 0 then
      J_388_0_j259 B12
    else
      (F_387 B12 (am_SB + 10 + 2 * 20) 9).bind fun (v15, B16) =>
      if v15 = 0 then
        J_388_0_j259 B16
      else
        (F_387 B16 (am_SB + 10 + 2 * 21) 19).bind fun (v19, B20) =>
        if v19 = 0 then
          J_388_0_j259 B20
        else
          (F_387 B20 (am_SB + 10 + 2 * 22) 77).bind fun (v23, B24) =>
          if v23 = 0 then
            J_388_0_j259 B24
          else
            J_388_0_j260 B24 1
set_option maxRecDepth 200000 in
theorem j_388_0_j202 {d : Nat} (hd : 12 ≤ d) {scr : ASc} {res : ARe} {B : Wd} {t0 : Int32} {o : Int32 × Wd} (hr : J_388_0_j202 B t0 = some o) (kr : res = (.inl (some (.int o.1)), mk o.2, Wd.kc o.2, Wd.kn o.2)) : Ex d am_M388 scr (202, [some (.ref 0), none], [.int t0], (mk B), B.kc, B.kn) res := by
  delta J_388_0_j202 at hr
  refine x_b 2 (S2 := (204, [some (.ref 0), some (.int t0)], [.int t0], (mk B), B.kc, B.kn)) rfl ?_
  rcases ite_some hr with ⟨h7, hr⟩ | ⟨h7, hr⟩
  · refine x_zt rfl rfl (decide_eq_true h7) ?_
    refine x_fg (Lq.n (Lq.n Lq.nil)) ?_
    exact j_388_0_j259 hd hr kr
  · refine x_zf rfl rfl (decide_eq_false h7) ?_
    refine x_b 3 (S2 := (213, [some (.ref 0), some (.int t0)], [.int 34, .ref (am_SB + 10 + 2 * 19), .ref 0], (mk B), B.kc, B.kn)) rfl ?_
    obtain ⟨⟨v11, B12⟩, h10, hr⟩ := bd_some hr
    refine x_cW (m_387 h10) rfl rfl rfl rfl rfl (by omega) ?_
    rcases ite_some hr with ⟨h13, hr⟩ | ⟨h13, hr⟩
    · refine x_zt rfl rfl (decide_eq_true h13) ?_
      refine x_fg (Lq.n (Lq.n Lq.nil)) ?_
      exact j_388_0_j259 hd hr kr
    · refine x_zf rfl rfl (decide_eq_false h13) ?_
      refine x_b 3 (S2 := (225, [some (.ref 0), some (.int t0)], [.int 9, .ref (am_SB + 10 + 2 * 20), .ref 0], (mk B12), B12.kc, B12.kn)) rfl ?_
      obtain ⟨⟨v15, B16⟩, h14, hr⟩ := bd_some hr
      refine x_cW (m_387 h14) rfl rfl rfl rfl rfl (by omega) ?_
      rcases ite_some hr with ⟨h17, hr⟩ | ⟨h17, hr⟩
      · refine x_zt rfl rfl (decide_eq_true h17) ?_
        refine x_fg (Lq.n (Lq.n Lq.nil)) ?_
        exact j_388_0_j259 hd hr kr
      · refine x_zf rfl rfl (decide_eq_false h17) ?_
        refine x_b 3 (S2 := (237, [some (.ref 0), some (.int t0)], [.int 19, .ref (am_SB + 10 + 2 * 21), .ref 0], (mk B16), B16.kc, B16.kn)) rfl ?_
        obtain ⟨⟨v19, B20⟩, h18, hr⟩ := bd_some hr
        refine x_cW (m_387 h18) rfl rfl rfl rfl rfl (by omega) ?_
        rcases ite_some hr with ⟨h21, hr⟩ | ⟨h21, hr⟩
        · refine x_zt rfl rfl (decide_eq_true h21) ?_
          refine x_fg (Lq.n (Lq.n Lq.nil)) ?_
          exact j_388_0_j259 hd hr kr
        · refine x_zf rfl rfl (decide_eq_false h21) ?_
          refine x_b 3 (S2 := (249, [some (.ref 0), some (.int t0)], [.int 77, .ref (am_SB + 10 + 2 * 22), .ref 0], (mk B20), B20.kc, B20.kn)) rfl ?_
          obtain ⟨⟨v23, B24⟩, h22, hr⟩ := bd_some hr
          refine x_cW (m_387 h22) rfl rfl rfl rfl rfl (by omega) ?_
          rcases ite_some hr with ⟨h25, hr⟩ | ⟨h25, hr⟩
          · refine x_zt rfl rfl (decide_eq_true h25) ?_
            refine x_fg (Lq.n (Lq.n Lq.nil)) ?_
            exact j_388_0_j259 hd hr kr
          · refine x_zf rfl rfl (decide_eq_false h25) ?_
            refine x_b 2 (S2 := (260, [some (.ref 0), some (.int t0)], [.int 1], (mk B24), B24.kc, B24.kn)) rfl ?_
            refine x_fg (Lq.n (Lq.n Lq.nil)) ?_
            exact j_388_0_j260 hd hr kr
def J_388_0_j201 (B : Wd) : Option (Int32 × Wd) :=
  J_388_0_j202 B 0
set_option maxRecDepth 200000 in
theorem j_388_0_j201 {d : Nat} (hd : 12 ≤ d) {scr : ASc} {res : ARe} {B : Wd} {o : Int32 × Wd} (hr : J_388_0_j201 B = some o) (kr : res = (.inl (some (.int o.1)), mk o.2, Wd.kc o.2, Wd.kn o.2)) : Ex d am_M388 scr (201, [some (.ref 0), none], [], (mk B), B.kc, B.kn) res := by
  delta J_388_0_j201 at hr
  refine x_b 1 (S2 := (202, [some (.ref 0), none], [.int 0], (mk B), B.kc, B.kn)) rfl ?_
  refine x_fg (Lq.s (Lq.s Lq.nil)) ?_
  exact j_388_0_j202 hd hr kr
def J_388_0_j132 (B : Wd) (t0 : Int32) : Option (Int32 × Wd) :=
  if t0 = 0 then
    J_388_0_j201 B
  else
    (F_387 B (am_SB + 10 + 2 * 14) 18).bind fun (v27, B28) =>
    if v27 = 0 then
      J_388_0_j201 B28
    else
      (F_387 B28 (am_SB + 10 + 2 * 15) 16).bind fun (v31, B32) =>
      if v31 = 0 then
        J_388_0_j201 B32
      else
        (F_387 B32 (am_SB + 10 + 2 * 16) 22).bind fun (v35, B36) =>
        if v35 = 0 then
          J_388_0_j201 B36
        else
          (F_387 B36 (am_SB + 10 + 2 * 17) 35).bind fun (v39, B40) =>
          if v39 = 0 then
            J_388_0_j201 B40
          else
            (F_387 B40 (am_SB + 10 + 2 * 18) 11).bind fun (v43, B44) =>
            if v43 = 0 then
              J_388_0_j201 B44
            else
              J_388_0_j202 B44 1
set_option maxRecDepth 200000 in
theorem j_388_0_j132 {d : Nat} (hd : 12 ≤ d) {scr : ASc} {res : ARe} {B : Wd} {t0 : Int32} {o : Int32 × Wd} (hr : J_388_0_j132 B t0 = some o) (kr : res = (.inl (some (.int o.1)), mk o.2, Wd.kc o.2, Wd.kn o.2)) : Ex d am_M388 scr (132, [some (.ref 0), none], [.int t0], (mk B), B.kc, B.kn) res := by
  delta J_388_0_j132 at hr
  refine x_b 2 (S2 := (134, [some (.ref 0), some (.int t0)], [.int t0], (mk B), B.kc, B.kn)) rfl ?_
  rcases ite_some hr with ⟨h6, hr⟩ | ⟨h6, hr⟩
  · refine x_zt rfl rfl (decide_eq_true h6) ?_
    refine x_fg (Lq.s (Lq.n Lq.nil)) ?_
    exact j_388_0_j201 hd hr kr
  · refine x_zf rfl rfl (decide_eq_false h6) ?_
    refine x_b 3 (S2 := (143, [some (.ref 0), some (.int t0)], [.int 18, .ref (am_SB + 10 + 2 * 14), .ref 0], (mk B), B.kc, B.kn)) rfl ?_
    obtain ⟨⟨v27, B28⟩, h26, hr⟩ := bd_some hr
    refine x_cW (m_387 h26) rfl rfl rfl rfl rfl (by omega) ?_
    rcases ite_some hr with ⟨h29, hr⟩ | ⟨h29, hr⟩
    · refine x_zt rfl rfl (decide_eq_true h29) ?_
      refine x_fg (Lq.s (Lq.n Lq.nil)) ?_
      exact j_388_0_j201 hd hr kr
    · refine x_zf rfl rfl (decide_eq_false h29) ?_
      refine x_b 3 (S2 := (155, [some (.ref 0), some (.int t0)], [.int 16, .ref (am_SB + 10 + 2 * 15), .ref 0], (mk B28), B28.kc, B28.kn)) rfl ?_
      obtain ⟨⟨v31, B32⟩, h30, hr⟩ := bd_some hr
      refine x_cW (m_387 h30) rfl rfl rfl rfl rfl (by omega) ?_
      rcases ite_some hr with ⟨h33, hr⟩ | ⟨h33, hr⟩
      · refine x_zt rfl rfl (decide_eq_true h33) ?_
        refine x_fg (Lq.s (Lq.n Lq.nil)) ?_
        exact j_388_0_j201 hd hr kr
      · refine x_zf rfl rfl (decide_eq_false h33) ?_
        refine x_b 3 (S2 := (167, [some (.ref 0), some (.int t0)], [.int 22, .ref (am_SB + 10 + 2 * 16), .ref 0], (mk B32), B32.kc, B32.kn)) rfl ?_
        obtain ⟨⟨v35, B36⟩, h34, hr⟩ := bd_some hr
        refine x_cW (m_387 h34) rfl rfl rfl rfl rfl (by omega) ?_
        rcases ite_some hr with ⟨h37, hr⟩ | ⟨h37, hr⟩
        · refine x_zt rfl rfl (decide_eq_true h37) ?_
          refine x_fg (Lq.s (Lq.n Lq.nil)) ?_
          exact j_388_0_j201 hd hr kr
        · refine x_zf rfl rfl (decide_eq_false h37) ?_
          refine x_b 3 (S2 := (179, [some (.ref 0), some (.int t0)], [.int 35, .ref (am_SB + 10 + 2 * 17), .ref 0], (mk B36), B36.kc, B36.kn)) rfl ?_
          obtain ⟨⟨v39, B40⟩, h38, hr⟩ := bd_some hr
          refine x_cW (m_387 h38) rfl rfl rfl rfl rfl (by omega) ?_
          rcases ite_some hr with ⟨h41, hr⟩ | ⟨h41, hr⟩
          · refine x_zt rfl rfl (decide_eq_true h41) ?_
            refine x_fg (Lq.s (Lq.n Lq.nil)) ?_
            exact j_388_0_j201 hd hr kr
          · refine x_zf rfl rfl (decide_eq_false h41) ?_
            refine x_b 3 (S2 := (191, [some (.ref 0), some (.int t0)], [.int 11, .ref (am_SB + 10 + 2 * 18), .ref 0], (mk B40), B40.kc, B40.kn)) rfl ?_
            obtain ⟨⟨v43, B44⟩, h42, hr⟩ := bd_some hr
            refine x_cW (m_387 h42) rfl rfl rfl rfl rfl (by omega) ?_
            rcases ite_some hr with ⟨h45, hr⟩ | ⟨h45, hr⟩
            · refine x_zt rfl rfl (decide_eq_true h45) ?_
              refine x_fg (Lq.s (Lq.n Lq.nil)) ?_
              exact j_388_0_j201 hd hr kr
            · refine x_zf rfl rfl (decide_eq_false h45) ?_
              refine x_b 2 (S2 := (202, [some (.ref 0), some (.int t0)], [.int 1], (mk B44), B44.kc, B44.kn)) rfl ?_
              refine x_fg (Lq.s (Lq.n Lq.nil)) ?_
              exact j_388_0_j202 hd hr kr
def J_388_0_j131 (B : Wd) : Option (Int32 × Wd) :=
  J_388_0_j132 B 0
set_option maxRecDepth 200000 in
theorem j_388_0_j131 {d : Nat} (hd : 12 ≤ d) {scr : ASc} {res : ARe} {B : Wd} {o : Int32 × Wd} (hr : J_388_0_j131 B = some o) (kr : res = (.inl (some (.int o.1)), mk o.2, Wd.kc o.2, Wd.kn o.2)) : Ex d am_M388 scr (131, [some (.ref 0), none], [], (mk B), B.kc, B.kn) res := by
  delta J_388_0_j131 at hr
  refine x_b 1 (S2 := (132, [some (.ref 0), none], [.int 0], (mk B), B.kc, B.kn)) rfl ?_
  refine x_fg (Lq.s (Lq.s Lq.nil)) ?_
  exact j_388_0_j132 hd hr kr
def J_388_0_j62 (B : Wd) (t0 : Int32) : Option (Int32 × Wd) :=
  if t0 = 0 then
    J_388_0_j131 B
  else
    (F_387 B (am_SB + 10 + 2 * 9) 11).bind fun (v47, B48) =>
    if v47 = 0 then
      J_388_0_j131 B48
    else
      (F_387 B48 (am_SB + 10 + 2 * 10) 18).bind fun (v51, B52) =>
      if v51 = 0 then
        J_388_0_j131 B52
      else
        (F_387 B52 (am_SB + 10 + 2 * 11) 20).bind fun (v55, B56) =>
        if v55 = 0 then
          J_388_0_j131 B56
        else
          (F_387 B56 (am_SB + 10 + 2 * 12) 18).bind fun (v59, B60) =>
          if v59 = 0 then
            J_388_0_j131 B60
          else
            (F_387 B60 (am_SB + 10 + 2 * 13) 17).bind fun (v63, B64) =>
            if v63 = 0 then
              J_388_0_j131 B64
            else
              J_388_0_j132 B64 1
set_option maxRecDepth 200000 in
theorem j_388_0_j62 {d : Nat} (hd : 12 ≤ d) {scr : ASc} {res : ARe} {B : Wd} {t0 : Int32} {o : Int32 × Wd} (hr : J_388_0_j62 B t0 = some o) (kr : res = (.inl (some (.int o.1)), mk o.2, Wd.kc o.2, Wd.kn o.2)) : Ex d am_M388 scr (62, [some (.ref 0), none], [.int t0], (mk B), B.kc, B.kn) res := by
  delta J_388_0_j62 at hr
  refine x_b 2 (S2 := (64, [some (.ref 0), some (.int t0)], [.int t0], (mk B), B.kc, B.kn)) rfl ?_
  rcases ite_some hr with ⟨h5, hr⟩ | ⟨h5, hr⟩
  · refine x_zt rfl rfl (decide_eq_true h5) ?_
    refine x_fg (Lq.s (Lq.n Lq.nil)) ?_
    exact j_388_0_j131 hd hr kr
  · refine x_zf rfl rfl (decide_eq_false h5) ?_
    refine x_b 3 (S2 := (73, [some (.ref 0), some (.int t0)], [.int 11, .ref (am_SB + 10 + 2 * 9), .ref 0], (mk B), B.kc, B.kn)) rfl ?_
    obtain ⟨⟨v47, B48⟩, h46, hr⟩ := bd_some hr
    refine x_cW (m_387 h46) rfl rfl rfl rfl rfl (by omega) ?_
    rcases ite_some hr with ⟨h49, hr⟩ | ⟨h49, hr⟩
    · refine x_zt rfl rfl (decide_eq_true h49) ?_
      refine x_fg (Lq.s (Lq.n Lq.nil)) ?_
      exact j_388_0_j131 hd hr kr
    · refine x_zf rfl rfl (decide_eq_false h49) ?_
      refine x_b 3 (S2 := (85, [some (.ref 0), some (.int t0)], [.int 18, .ref (am_SB + 10 + 2 * 10), .ref 0], (mk B48), B48.kc, B48.kn)) rfl ?_
      obtain ⟨⟨v51, B52⟩, h50, hr⟩ := bd_some hr
      refine x_cW (m_387 h50) rfl rfl rfl rfl rfl (by omega) ?_
      rcases ite_some hr with ⟨h53, hr⟩ | ⟨h53, hr⟩
      · refine x_zt rfl rfl (decide_eq_true h53) ?_
        refine x_fg (Lq.s (Lq.n Lq.nil)) ?_
        exact j_388_0_j131 hd hr kr
      · refine x_zf rfl rfl (decide_eq_false h53) ?_
        refine x_b 3 (S2 := (97, [some (.ref 0), some (.int t0)], [.int 20, .ref (am_SB + 10 + 2 * 11), .ref 0], (mk B52), B52.kc, B52.kn)) rfl ?_
        obtain ⟨⟨v55, B56⟩, h54, hr⟩ := bd_some hr
        refine x_cW (m_387 h54) rfl rfl rfl rfl rfl (by omega) ?_
        rcases ite_some hr with ⟨h57, hr⟩ | ⟨h57, hr⟩
        · refine x_zt rfl rfl (decide_eq_true h57) ?_
          refine x_fg (Lq.s (Lq.n Lq.nil)) ?_
          exact j_388_0_j131 hd hr kr
        · refine x_zf rfl rfl (decide_eq_false h57) ?_
          refine x_b 3 (S2 := (109, [some (.ref 0), some (.int t0)], [.int 18, .ref (am_SB + 10 + 2 * 12), .ref 0], (mk B56), B56.kc, B56.kn)) rfl ?_
          obtain ⟨⟨v59, B60⟩, h58, hr⟩ := bd_some hr
          refine x_cW (m_387 h58) rfl rfl rfl rfl rfl (by omega) ?_
          rcases ite_some hr with ⟨h61, hr⟩ | ⟨h61, hr⟩
          · refine x_zt rfl rfl (decide_eq_true h61) ?_
            refine x_fg (Lq.s (Lq.n Lq.nil)) ?_
            exact j_388_0_j131 hd hr kr
          · refine x_zf rfl rfl (decide_eq_false h61) ?_
            refine x_b 3 (S2 := (121, [some (.ref 0), some (.int t0)], [.int 17, .ref (am_SB + 10 + 2 * 13), .ref 0], (mk B60), B60.kc, B60.kn)) rfl ?_
            obtain ⟨⟨v63, B64⟩, h62, hr⟩ := bd_some hr
            refine x_cW (m_387 h62) rfl rfl rfl rfl rfl (by omega) ?_
            rcases ite_some hr with ⟨h65, hr⟩ | ⟨h65, hr⟩
            · refine x_zt rfl rfl (decide_eq_true h65) ?_
              refine x_fg (Lq.s (Lq.n Lq.nil)) ?_
              exact j_388_0_j131 hd hr kr
            · refine x_zf rfl rfl (decide_eq_false h65) ?_
              refine x_b 2 (S2 := (132, [some (.ref 0), some (.int t0)], [.int 1], (mk B64), B64.kc, B64.kn)) rfl ?_
              refine x_fg (Lq.s (Lq.n Lq.nil)) ?_
              exact j_388_0_j132 hd hr kr
def J_388_0_j61 (B : Wd) : Option (Int32 × Wd) :=
  J_388_0_j62 B 0
set_option maxRecDepth 200000 in
theorem j_388_0_j61 {d : Nat} (hd : 12 ≤ d) {scr : ASc} {res : ARe} {B : Wd} {o : Int32 × Wd} (hr : J_388_0_j61 B = some o) (kr : res = (.inl (some (.int o.1)), mk o.2, Wd.kc o.2, Wd.kn o.2)) : Ex d am_M388 scr (61, [some (.ref 0), none], [], (mk B), B.kc, B.kn) res := by
  delta J_388_0_j61 at hr
  refine x_b 1 (S2 := (62, [some (.ref 0), none], [.int 0], (mk B), B.kc, B.kn)) rfl ?_
  refine x_fg (Lq.s (Lq.s Lq.nil)) ?_
  exact j_388_0_j62 hd hr kr
/-- PebbleProofsLaw.texts(LPebbleProofs;)Z -/
def F_388 (B : Wd) : Option (Int32 × Wd) :=
  (F_387 B (am_SB + 10 + 2 * 4) 0).bind fun (v2, B3) =>
  if v2 = 0 then
    J_388_0_j61 B3
  else
    (F_387 B3 (am_SB + 10 + 2 * 5) 0).bind fun (v67, B68) =>
    if v67 = 0 then
      J_388_0_j61 B68
    else
      (F_387 B68 (am_SB + 10 + 2 * 6) 9).bind fun (v71, B72) =>
      if v71 = 0 then
        J_388_0_j61 B72
      else
        (F_387 B72 (am_SB + 10 + 2 * 7) 9).bind fun (v75, B76) =>
        if v75 = 0 then
          J_388_0_j61 B76
        else
          (F_387 B76 (am_SB + 10 + 2 * 8) 10).bind fun (v79, B80) =>
          if v79 = 0 then
            J_388_0_j61 B80
          else
            J_388_0_j62 B80 1
set_option maxRecDepth 200000 in
theorem f_388 {d : Nat} (hd : 12 ≤ d) {scr : ASc} {res : ARe} {B : Wd} {o : Int32 × Wd} (hr : F_388 B = some o) (kr : res = (.inl (some (.int o.1)), mk o.2, Wd.kc o.2, Wd.kn o.2)) : Ex d am_M388 scr (0, [some (.ref 0), none], [], (mk B), B.kc, B.kn) res := by
  delta F_388 at hr
  refine x_b 3 (S2 := (4, [some (.ref 0), none], [.int 0, .ref (am_SB + 10 + 2 * 4), .ref 0], (mk B), B.kc, B.kn)) rfl ?_
  obtain ⟨⟨v2, B3⟩, h1, hr⟩ := bd_some hr
  refine x_cW (m_387 h1) rfl rfl rfl rfl rfl (by omega) ?_
  rcases ite_some hr with ⟨h4, hr⟩ | ⟨h4, hr⟩
  · refine x_zt rfl rfl (decide_eq_true h4) ?_
    refine x_fg (Lq.s (Lq.s Lq.nil)) ?_
    exact j_388_0_j61 hd hr kr
  · refine x_zf rfl rfl (decide_eq_false h4) ?_
    refine x_b 3 (S2 := (15, [some (.ref 0), none], [.int 0, .ref (am_SB + 10 + 2 * 5), .ref 0], (mk B3), B3.kc, B3.kn)) rfl ?_
    obtain ⟨⟨v67, B68⟩, h66, hr⟩ := bd_some hr
    refine x_cW (m_387 h66) rfl rfl rfl rfl rfl (by omega) ?_
    rcases ite_some hr with ⟨h69, hr⟩ | ⟨h69, hr⟩
    · refine x_zt rfl rfl (decide_eq_true h69) ?_
      refine x_fg (Lq.s (Lq.s Lq.nil)) ?_
      exact j_388_0_j61 hd hr kr
    · refine x_zf rfl rfl (decide_eq_false h69) ?_
      refine x_b 3 (S2 := (27, [some (.ref 0), none], [.int 9, .ref (am_SB + 10 + 2 * 6), .ref 0], (mk B68), B68.kc, B68.kn)) rfl ?_
      obtain ⟨⟨v71, B72⟩, h70, hr⟩ := bd_some hr
      refine x_cW (m_387 h70) rfl rfl rfl rfl rfl (by omega) ?_
      rcases ite_some hr with ⟨h73, hr⟩ | ⟨h73, hr⟩
      · refine x_zt rfl rfl (decide_eq_true h73) ?_
        refine x_fg (Lq.s (Lq.s Lq.nil)) ?_
        exact j_388_0_j61 hd hr kr
      · refine x_zf rfl rfl (decide_eq_false h73) ?_
        refine x_b 3 (S2 := (39, [some (.ref 0), none], [.int 9, .ref (am_SB + 10 + 2 * 7), .ref 0], (mk B72), B72.kc, B72.kn)) rfl ?_
        obtain ⟨⟨v75, B76⟩, h74, hr⟩ := bd_some hr
        refine x_cW (m_387 h74) rfl rfl rfl rfl rfl (by omega) ?_
        rcases ite_some hr with ⟨h77, hr⟩ | ⟨h77, hr⟩
        · refine x_zt rfl rfl (decide_eq_true h77) ?_
          refine x_fg (Lq.s (Lq.s Lq.nil)) ?_
          exact j_388_0_j61 hd hr kr
        · refine x_zf rfl rfl (decide_eq_false h77) ?_
          refine x_b 3 (S2 := (51, [some (.ref 0), none], [.int 10, .ref (am_SB + 10 + 2 * 8), .ref 0], (mk B76), B76.kc, B76.kn)) rfl ?_
          obtain ⟨⟨v79, B80⟩, h78, hr⟩ := bd_some hr
          refine x_cW (m_387 h78) rfl rfl rfl rfl rfl (by omega) ?_
          rcases ite_some hr with ⟨h81, hr⟩ | ⟨h81, hr⟩
          · refine x_zt rfl rfl (decide_eq_true h81) ?_
            refine x_fg (Lq.s (Lq.s Lq.nil)) ?_
            exact j_388_0_j61 hd hr kr
          · refine x_zf rfl rfl (decide_eq_false h81) ?_
            refine x_b 2 (S2 := (62, [some (.ref 0), none], [.int 1], (mk B80), B80.kc, B80.kn)) rfl ?_
            refine x_fg (Lq.s (Lq.s Lq.nil)) ?_
            exact j_388_0_j62 hd hr kr
set_option maxRecDepth 200000 in
theorem m_388 {scr : ASc} {B : Wd} {o : Int32 × Wd} (hr : F_388 B = some o) : RnW scr 13 388 [.ref 0] B (.inl (some (.int o.1))) o.2 :=
  x_methW (M := am_M388) rfl (show 1 ≤ 2 by decide) (f_388 (Nat.le_refl _) hr rfl)
