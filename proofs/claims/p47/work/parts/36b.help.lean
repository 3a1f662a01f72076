/-! ===== STAGE A: help (by wip/p47/genl.py) ===== -/
def J_365_0_j13 (L : Nat) (xs : Nat → Int32) (B : Wd) (t0 : Int32) : Option (Int32) :=
  some t0
theorem j_365_0_j13 {d : Nat} (hd : 1 ≤ d) {L : Nat} {xs : Nat → Int32} {res : ARe} {B : Wd} {t0 : Int32} {o : Int32} (hr : J_365_0_j13 L xs B t0 = some o) (kr : res = (.inl (some (.int o)), mk B, Wd.kc B, Wd.kn B)) : Ex d am_M365 (some (L, xs)) (13, [none, none], [.int t0], (mk B), B.kc, B.kn) res := by
  delta J_365_0_j13 at hr
  cases hr
  rw [kr]
  exact x_ret rfl rfl am_ret_i
/-- PebbleProofsLaw.cell([II)I -/
def F_365 (L : Nat) (xs : Nat → Int32) (B : Wd) (x1 : Int32) : Option (Int32) :=
  if (Int32.ofNat L) ≤ x1 then
    J_365_0_j13 L xs B 0
  else
    (ix x1 L).bind fun i2 =>
    J_365_0_j13 L xs B (xs i2)
theorem f_365 {d : Nat} (hd : 1 ≤ d) {L : Nat} {xs : Nat → Int32} {res : ARe} {B : Wd} {x1 : Int32} {o : Int32} (hr : F_365 L xs B x1 = some o) (kr : res = (.inl (some (.int o)), mk B, Wd.kc B, Wd.kn B)) : Ex d am_M365 (some (L, xs)) (0, [some (.ref am_SB), some (.int x1)], [], (mk B), B.kc, B.kn) res := by
  delta F_365 at hr
  refine x_b 2 (S2 := (2, [some (.ref am_SB), some (.int x1)], [.ref am_SB, .int x1], (mk B), B.kc, B.kn)) rfl ?_
  refine x_slen rfl rfl ?_
  rcases ite_some hr with ⟨h1, hr⟩ | ⟨h1, hr⟩
  · refine x_ct rfl rfl (decide_eq_true h1) ?_
    refine x_b 1 (S2 := (13, [some (.ref am_SB), some (.int x1)], [.int 0], (mk B), B.kc, B.kn)) rfl ?_
    refine x_fg (Lq.n (Lq.n Lq.nil)) ?_
    exact j_365_0_j13 hd hr kr
  · refine x_cf rfl rfl (decide_eq_false h1) ?_
    refine x_b 2 (S2 := (8, [some (.ref am_SB), some (.int x1)], [.int x1, .ref am_SB], (mk B), B.kc, B.kn)) rfl ?_
    obtain ⟨i2, h3, hr⟩ := bd_some hr
    refine x_sld rfl rfl h3 ?_
    refine x_b 1 (S2 := (13, [some (.ref am_SB), some (.int x1)], [.int (xs i2)], (mk B), B.kc, B.kn)) rfl ?_
    refine x_fg (Lq.n (Lq.n Lq.nil)) ?_
    exact j_365_0_j13 hd hr kr
theorem m_365 {L : Nat} {xs : Nat → Int32} {B : Wd} {x1 : Int32} {o : Int32} (hr : F_365 L xs B x1 = some o) : RnW (some (L, xs)) 2 365 [.ref am_SB, .int x1] B (.inl (some (.int o))) B :=
  x_methW (M := am_M365) rfl (show 2 ≤ 2 by decide) (f_365 (Nat.le_refl _) hr rfl)
/-- PebbleProofsLaw.pick([III)I -/
def F_366 (L : Nat) (xs : Nat → Int32) (B : Wd) (x1 : Int32) (x2 : Int32) : Option (Int32) :=
  (F_365 L xs B x1).bind fun v2 =>
  if x2 = 0 then none else
  some ((v2 &&& (2147483647 : Int32)) - (v2 &&& (2147483647 : Int32)) / x2 * x2)
theorem f_366 {d : Nat} (hd : 2 ≤ d) {L : Nat} {xs : Nat → Int32} {res : ARe} {B : Wd} {x1 : Int32} {x2 : Int32} {o : Int32} (hr : F_366 L xs B x1 x2 = some o) (kr : res = (.inl (some (.int o)), mk B, Wd.kc B, Wd.kn B)) : Ex d am_M366 (some (L, xs)) (0, [some (.ref am_SB), some (.int x1), some (.int x2)], [], (mk B), B.kc, B.kn) res := by
  delta F_366 at hr
  refine x_b 2 (S2 := (2, [some (.ref am_SB), some (.int x1), some (.int x2)], [.int x1, .ref am_SB], (mk B), B.kc, B.kn)) rfl ?_
  obtain ⟨v2, h1, hr⟩ := bd_some hr
  refine x_cW (m_365 h1) rfl rfl rfl rfl rfl (by omega) ?_
  refine x_b 3 (S2 := (9, [some (.ref am_SB), some (.int x1), some (.int x2)], [.int x2, .int (v2 &&& (2147483647 : Int32))], (mk B), B.kc, B.kn)) rfl ?_
  rcases ite_some hr with ⟨h3, hr⟩ | ⟨h3, hr⟩
  · cases hr
  refine x_rem rfl rfl h3 ?_
  cases hr
  rw [kr]
  exact x_ret rfl rfl am_ret_i
theorem m_366 {L : Nat} {xs : Nat → Int32} {B : Wd} {x1 : Int32} {x2 : Int32} {o : Int32} (hr : F_366 L xs B x1 x2 = some o) : RnW (some (L, xs)) 3 366 [.ref am_SB, .int x1, .int x2] B (.inl (some (.int o))) B :=
  x_methW (M := am_M366) rfl (show 3 ≤ 3 by decide) (f_366 (Nat.le_refl _) hr rfl)
/-- PebbleProofsLaw.append(LPebbleProofs;I)I -/
def F_367 (B : Wd) (x1 : Int32) : Option (Int32 × Wd) :=
  (F_80 B x1 0 0 0 0).bind fun (r2, B3) =>
  xq r2 (fun X4 =>
    if X4 = 0 then (
      some ((3294967293 : Int32), B3)) else none) fun v5 =>
  some (v5, B3)
theorem f_367 {d : Nat} (hd : 8 ≤ d) {scr : ASc} {res : ARe} {B : Wd} {x1 : Int32} {o : Int32 × Wd} (hr : F_367 B x1 = some o) (kr : res = (.inl (some (.int o.1)), mk o.2, Wd.kc o.2, Wd.kn o.2)) : Ex d am_M367 scr (0, [some (.ref 0), some (.int x1), none], [], (mk B), B.kc, B.kn) res := by
  delta F_367 at hr
  refine x_b 6 (S2 := (6, [some (.ref 0), some (.int x1), none], [.int 0, .int 0, .int 0, .int 0, .int x1, .ref 0], (mk B), B.kc, B.kn)) rfl ?_
  obtain ⟨⟨r2, B3⟩, h1, hr⟩ := bd_some hr
  have hr9 := xq_some hr
  clear hr
  rcases hr9 with ⟨X4, rfl, hr⟩ | ⟨v5, rfl, hr⟩
  · rcases ite_some hr with ⟨h6, hr⟩ | ⟨h6, hr⟩
    · subst h6
      refine x_cH (m_80 h1) rfl rfl rfl rfl (am_recv_v ((rg_pp (W := B)).lt (i := 0) (show 0 < 1 by decide)) ((rg_pp (W := B)).at (i := 0) rfl) rfl) (by omega) rfl rfl ?_
      refine x_b 1 (S2 := (13, [some (.ref 0), some (.int x1), none], [.int (3294967293 : Int32)], (mk B3), B3.kc, B3.kn)) rfl ?_
      cases hr
      rw [kr]
      exact x_ret rfl rfl am_ret_i
    cases hr
  refine x_cW (m_80 h1) rfl rfl rfl rfl (am_recv_v ((rg_pp (W := B)).lt (i := 0) (show 0 < 1 by decide)) ((rg_pp (W := B)).at (i := 0) rfl) rfl) (by omega) ?_
  cases hr
  rw [kr]
  exact x_ret rfl rfl am_ret_i
theorem m_367 {scr : ASc} {B : Wd} {x1 : Int32} {o : Int32 × Wd} (hr : F_367 B x1 = some o) : RnW scr 9 367 [.ref 0, .int x1] B (.inl (some (.int o.1))) o.2 :=
  x_methW (M := am_M367) rfl (show 2 ≤ 3 by decide) (f_367 (Nat.le_refl _) hr rfl)
/-- PebbleProofsLaw.load(LPebbleProofs;)I -/
def F_368 (B : Wd) : Option (Int32 × Wd) :=
  (F_83 B).bind fun (r2, B3) =>
  xq r2 (fun X4 =>
    if X4 = 1 then (
      some ((3294967294 : Int32), B3)) else none) fun v5 =>
  some (v5, B3)
theorem f_368 {d : Nat} (hd : 10 ≤ d) {scr : ASc} {res : ARe} {B : Wd} {o : Int32 × Wd} (hr : F_368 B = some o) (kr : res = (.inl (some (.int o.1)), mk o.2, Wd.kc o.2, Wd.kn o.2)) : Ex d am_M368 scr (0, [some (.ref 0), none], [], (mk B), B.kc, B.kn) res := by
  delta F_368 at hr
  refine x_b 1 (S2 := (1, [some (.ref 0), none], [.ref 0], (mk B), B.kc, B.kn)) rfl ?_
  obtain ⟨⟨r2, B3⟩, h1, hr⟩ := bd_some hr
  have hr9 := xq_some hr
  clear hr
  rcases hr9 with ⟨X4, rfl, hr⟩ | ⟨v5, rfl, hr⟩
  · rcases ite_some hr with ⟨h6, hr⟩ | ⟨h6, hr⟩
    · subst h6
      refine x_cH (m_83 h1) rfl rfl rfl rfl (am_recv_v ((rg_pp (W := B)).lt (i := 0) (show 0 < 1 by decide)) ((rg_pp (W := B)).at (i := 0) rfl) rfl) (by omega) rfl rfl ?_
      refine x_b 1 (S2 := (8, [some (.ref 0), none], [.int (3294967294 : Int32)], (mk B3), B3.kc, B3.kn)) rfl ?_
      cases hr
      rw [kr]
      exact x_ret rfl rfl am_ret_i
    cases hr
  refine x_cW (m_83 h1) rfl rfl rfl rfl (am_recv_v ((rg_pp (W := B)).lt (i := 0) (show 0 < 1 by decide)) ((rg_pp (W := B)).at (i := 0) rfl) rfl) (by omega) ?_
  cases hr
  rw [kr]
  exact x_ret rfl rfl am_ret_i
theorem m_368 {scr : ASc} {B : Wd} {o : Int32 × Wd} (hr : F_368 B = some o) : RnW scr 11 368 [.ref 0] B (.inl (some (.int o.1))) o.2 :=
  x_methW (M := am_M368) rfl (show 1 ≤ 2 by decide) (f_368 (Nat.le_refl _) hr rfl)
abbrev P_369_10 (x1 : Nat) (s : Int32 × Int32 × Wd) : ASt := (10, [some (.ref 0), some (.ref x1), some (.int s.1), some (.int s.2.1), none, none], [], (mk s.2.2), Wd.kc s.2.2, Wd.kn s.2.2)
abbrev PX_369_10 (x1 : Nat) (s : Int32 × Wd) : ASt := (80, [none, some (.ref x1), some (.int s.1), none, none, none], [], (mk s.2), Wd.kc s.2, Wd.kn s.2)
abbrev P_369_24 (B : Wd) (x1 : Nat) (x3 : Int32) (s : Int32 × Int32) : ASt := (24, [some (.ref 0), some (.ref x1), none, some (.int x3), some (.int s.1), some (.int s.2)], [], (mk B), Wd.kc B, Wd.kn B)
abbrev PX_369_24 (B : Wd) (x1 : Nat) (x3 : Int32) (s : Int32) : ASt := (67, [some (.ref 0), some (.ref x1), none, some (.int x3), some (.int s), none], [], (mk B), Wd.kc B, Wd.kn B)
def J_369_24_j58 (B : Wd) (x1 : Nat) (x3 : Int32) (x5 : Int32) (t0 : Int32) (t1 : Int32) : Option ((Int32 × Int32) ⊕ (Int32)) :=
  some (.inl ((t1 ||| t0), (x5 + 1)))
theorem j_369_24_j58 {d : Nat} (hd : 9 ≤ d) {scr : ASc} {res : ARe} {B : Wd} {x1 : Nat} {x3 : Int32} {x5 : Int32} {t0 : Int32} {t1 : Int32} {o : (Int32 × Int32) ⊕ (Int32)} (hr : J_369_24_j58 B x1 x3 x5 t0 t1 = some o) (ka : ∀ s, o = .inl s → Ex d am_M369 scr (P_369_24 B x1 x3 s) res) (kx : ∀ s, o = .inr s → Ex d am_M369 scr (PX_369_24 B x1 x3 s) res) : Ex d am_M369 scr (58, [some (.ref 0), some (.ref x1), none, some (.int x3), none, some (.int x5)], [.int t0, .int t1], (mk B), B.kc, B.kn) res := by
  delta J_369_24_j58 at hr
  refine x_b 4 (S2 := (24, [some (.ref 0), some (.ref x1), none, some (.int x3), some (.int (t1 ||| t0)), some (.int (x5 + 1))], [], (mk B), B.kc, B.kn)) rfl ?_
  refine x_fg (Lq.s (Lq.s (Lq.s (Lq.s (Lq.s (Lq.s Lq.nil)))))) ?_
  exact ka ((t1 ||| t0), (x5 + 1)) (Option.some.inj hr).symm
def G_369_24 (B : Wd) (x1 : Nat) (x3 : Int32) (s : Int32 × Int32) : Option ((Int32 × Int32) ⊕ (Int32)) := 
  match s with
  | (x4, x5) =>
    if 4 ≤ x5 then
      some (.inr x4)
    else
      (B.rs x1).bind fun _ =>
      (F_255 B x1).bind fun v13 =>
      if v13 ≤ (x3 + x5) then
        J_369_24_j58 B x1 x3 x5 0 (x4 <<< (8 &&& 31))
      else
        (B.rs x1).bind fun _ =>
        (F_256 B x1 (x3 + x5)).bind fun v17 =>
        J_369_24_j58 B x1 x3 x5 v17 (x4 <<< (8 &&& 31))
theorem g_369_24 {d : Nat} (hd : 9 ≤ d) {scr : ASc} {res : ARe} {B : Wd} {x1 : Nat} {x3 : Int32} {s : Int32 × Int32} {o : (Int32 × Int32) ⊕ (Int32)} (hr : G_369_24 B x1 x3 s = some o) (ka : ∀ s, o = .inl s → Ex d am_M369 scr (P_369_24 B x1 x3 s) res) (kx : ∀ s, o = .inr s → Ex d am_M369 scr (PX_369_24 B x1 x3 s) res) : Ex d am_M369 scr (P_369_24 B x1 x3 s) res := by
  obtain ⟨x4, x5⟩ := s
  delta G_369_24 at hr
  show Ex d am_M369 scr (24, [some (.ref 0), some (.ref x1), none, some (.int x3), some (.int x4), some (.int x5)], [], (mk B), B.kc, B.kn) res
  refine x_b 2 (S2 := (27, [some (.ref 0), some (.ref x1), none, some (.int x3), some (.int x4), some (.int x5)], [.int 4, .int x5], (mk B), B.kc, B.kn)) rfl ?_
  rcases ite_some hr with ⟨h10, hr⟩ | ⟨h10, hr⟩
  · refine x_ct rfl rfl (decide_eq_true h10) ?_
    refine x_fg (Lq.s (Lq.s (Lq.s (Lq.s (Lq.s (Lq.n Lq.nil)))))) ?_
    exact kx x4 (Option.some.inj hr).symm
  · refine x_cf rfl rfl (decide_eq_false h10) ?_
    refine x_b 7 (S2 := (40, [some (.ref 0), some (.ref x1), none, some (.int x3), some (.int x4), some (.int x5)], [.ref x1, .int (x3 + x5), .int (x4 <<< (8 &&& 31))], (mk B), B.kc, B.kn)) rfl ?_
    obtain ⟨uh11, h11, hr⟩ := bd_some hr
    obtain ⟨v13, h12, hr⟩ := bd_some hr
    refine x_cW (m_255 h12) rfl rfl rfl rfl (am_recv_x h11) (by omega) ?_
    rcases ite_some hr with ⟨h14, hr⟩ | ⟨h14, hr⟩
    · refine x_ct rfl rfl (decide_eq_true h14) ?_
      refine x_b 1 (S2 := (58, [some (.ref 0), some (.ref x1), none, some (.int x3), some (.int x4), some (.int x5)], [.int 0, .int (x4 <<< (8 &&& 31))], (mk B), B.kc, B.kn)) rfl ?_
      refine x_fg (Lq.s (Lq.s (Lq.s (Lq.s (Lq.n (Lq.s Lq.nil)))))) ?_
      exact j_369_24_j58 hd hr ka kx
    · refine x_cf rfl rfl (decide_eq_false h14) ?_
      refine x_b 4 (S2 := (51, [some (.ref 0), some (.ref x1), none, some (.int x3), some (.int x4), some (.int x5)], [.int (x3 + x5), .ref x1, .int (x4 <<< (8 &&& 31))], (mk B), B.kc, B.kn)) rfl ?_
      obtain ⟨uh15, h15, hr⟩ := bd_some hr
      obtain ⟨v17, h16, hr⟩ := bd_some hr
      refine x_cW (m_256 h16) rfl rfl rfl rfl (am_recv_x h15) (by omega) ?_
      refine x_b 1 (S2 := (58, [some (.ref 0), some (.ref x1), none, some (.int x3), some (.int x4), some (.int x5)], [.int v17, .int (x4 <<< (8 &&& 31))], (mk B), B.kc, B.kn)) rfl ?_
      refine x_fg (Lq.s (Lq.s (Lq.s (Lq.s (Lq.n (Lq.s Lq.nil)))))) ?_
      exact j_369_24_j58 hd hr ka kx
def G_369_10 (x1 : Nat) (s : Int32 × Int32 × Wd) : Option ((Int32 × Int32 × Wd) ⊕ (Int32 × Wd)) := 
  match s with
  | (x2, x3, B) =>
    (B.rs x1).bind fun _ =>
    (F_255 B x1).bind fun v8 =>
    if v8 ≤ x3 then
      some (.inr (x2, B))
    else
      (lw (G_369_24 B x1 x3) 200000 (0, 0)).bind fun v19 =>
      (F_367 B v19).bind fun (v22, B23) =>
      some (.inl (v22, (x3 + 4), B23))
theorem g_369_10 {d : Nat} (hd : 9 ≤ d) {scr : ASc} {res : ARe} {x1 : Nat} {s : Int32 × Int32 × Wd} {o : (Int32 × Int32 × Wd) ⊕ (Int32 × Wd)} (hr : G_369_10 x1 s = some o) (ka : ∀ s, o = .inl s → Ex d am_M369 scr (P_369_10 x1 s) res) (kx : ∀ s, o = .inr s → Ex d am_M369 scr (PX_369_10 x1 s) res) : Ex d am_M369 scr (P_369_10 x1 s) res := by
  obtain ⟨x2, x3, B⟩ := s
  delta G_369_10 at hr
  show Ex d am_M369 scr (10, [some (.ref 0), some (.ref x1), some (.int x2), some (.int x3), none, none], [], (mk B), B.kc, B.kn) res
  refine x_b 2 (S2 := (12, [some (.ref 0), some (.ref x1), some (.int x2), some (.int x3), none, none], [.ref x1, .int x3], (mk B), B.kc, B.kn)) rfl ?_
  obtain ⟨uh6, h6, hr⟩ := bd_some hr
  obtain ⟨v8, h7, hr⟩ := bd_some hr
  refine x_cW (m_255 h7) rfl rfl rfl rfl (am_recv_x h6) (by omega) ?_
  rcases ite_some hr with ⟨h9, hr⟩ | ⟨h9, hr⟩
  · refine x_ct rfl rfl (decide_eq_true h9) ?_
    refine x_fg (Lq.n (Lq.s (Lq.s (Lq.n (Lq.s (Lq.s Lq.nil)))))) ?_
    exact kx (x2, B) (Option.some.inj hr).symm
  · refine x_cf rfl rfl (decide_eq_false h9) ?_
    refine x_b 4 (S2 := (24, [some (.ref 0), some (.ref x1), some (.int x2), some (.int x3), some (.int 0), some (.int 0)], [], (mk B), B.kc, B.kn)) rfl ?_
    refine x_fg (Lq.s (Lq.s (Lq.n (Lq.s (Lq.s (Lq.s Lq.nil)))))) ?_
    obtain ⟨v19, h18, hr⟩ := bd_some hr
    refine x_lw (P := P_369_24 B x1 x3) (Q := fun x => Ex d am_M369 scr (PX_369_24 B x1 x3 x) res) (fun s o h1 ka kx => g_369_24 hd h1 ka kx) _ (0, 0) _ h18 ?_
    show Ex d am_M369 scr (67, [some (.ref 0), some (.ref x1), none, some (.int x3), some (.int v19), none], [], (mk B), B.kc, B.kn) res
    refine x_b 2 (S2 := (70, [some (.ref 0), some (.ref x1), none, some (.int x3), some (.int v19), none], [.int v19, .ref 0], (mk B), B.kc, B.kn)) rfl ?_
    obtain ⟨⟨v22, B23⟩, h21, hr⟩ := bd_some hr
    refine x_cW (m_367 h21) rfl rfl rfl rfl rfl (by omega) ?_
    refine x_b 3 (S2 := (10, [some (.ref 0), some (.ref x1), some (.int v22), some (.int (x3 + 4)), some (.int v19), none], [], (mk B23), B23.kc, B23.kn)) rfl ?_
    refine x_fg (Lq.s (Lq.s (Lq.s (Lq.s (Lq.n (Lq.s Lq.nil)))))) ?_
    exact ka (v22, (x3 + 4), B23) (Option.some.inj hr).symm
def J_369_0_j93 (B : Wd) (t0 : Int32) : Option (Int32 × Wd) :=
  (if t0 = 0 ∨ t0 = 1 then some () else none).bind fun _ =>
  some (t0, B)
theorem j_369_0_j93 {d : Nat} (hd : 9 ≤ d) {scr : ASc} {res : ARe} {B : Wd} {t0 : Int32} {o : Int32 × Wd} (hr : J_369_0_j93 B t0 = some o) (kr : res = (.inl (some (.int o.1)), mk o.2, Wd.kc o.2, Wd.kn o.2)) : Ex d am_M369 scr (93, [none, none, none, none, none, none], [.int t0], (mk B), B.kc, B.kn) res := by
  delta J_369_0_j93 at hr
  obtain ⟨uh33, h33, hr⟩ := bd_some hr
  obtain ⟨h32, -⟩ := itn_some h33
  cases hr
  rw [kr]
  exact x_ret rfl rfl (am_ret_z h32)
/-- PebbleProofsLaw.type(LPebbleProofs;Ljava/lang/String;)Z -/
def F_369 (B : Wd) (x1 : Nat) : Option (Int32 × Wd) :=
  (F_81 B 0).bind fun (r2, B3) =>
  xq r2 (fun X4 =>
    none) fun v5 =>
  (lw (G_369_10 x1) 200000 (0, 0, B3)).bind fun (v25, B26) =>
  (B26.rs x1).bind fun _ =>
  (F_255 B26 x1).bind fun v30 =>
  if ¬ v25 = v30 then
    J_369_0_j93 B26 0
  else
    J_369_0_j93 B26 1
theorem f_369 {d : Nat} (hd : 9 ≤ d) {scr : ASc} {res : ARe} {B : Wd} {x1 : Nat} {o : Int32 × Wd} (hr : F_369 B x1 = some o) (kr : res = (.inl (some (.int o.1)), mk o.2, Wd.kc o.2, Wd.kn o.2)) : Ex d am_M369 scr (0, [some (.ref 0), some (.ref x1), none, none, none, none], [], (mk B), B.kc, B.kn) res := by
  delta F_369 at hr
  refine x_b 2 (S2 := (2, [some (.ref 0), some (.ref x1), none, none, none, none], [.int 0, .ref 0], (mk B), B.kc, B.kn)) rfl ?_
  obtain ⟨⟨r2, B3⟩, h1, hr⟩ := bd_some hr
  have hr9 := xq_some hr
  clear hr
  rcases hr9 with ⟨X4, rfl, hr⟩ | ⟨v5, rfl, hr⟩
  · cases hr
  refine x_cW (m_81 h1) rfl rfl rfl rfl (am_recv_v ((rg_pp (W := B)).lt (i := 0) (show 0 < 1 by decide)) ((rg_pp (W := B)).at (i := 0) rfl) rfl) (by omega) ?_
  refine x_b 5 (S2 := (10, [some (.ref 0), some (.ref x1), some (.int 0), some (.int 0), none, none], [], (mk B3), B3.kc, B3.kn)) rfl ?_
  refine x_fg (Lq.s (Lq.s (Lq.s (Lq.s (Lq.s (Lq.s Lq.nil)))))) ?_
  obtain ⟨o27, h24, hr⟩ := bd_some hr
  refine x_lw (P := P_369_10 x1) (Q := fun x => Ex d am_M369 scr (PX_369_10 x1 x) res) (fun s o h1 ka kx => g_369_10 hd h1 ka kx) _ (0, 0, B3) _ h24 ?_
  obtain ⟨v25, B26⟩ := o27
  show Ex d am_M369 scr (80, [none, some (.ref x1), some (.int v25), none, none, none], [], (mk B26), B26.kc, B26.kn) res
  refine x_b 2 (S2 := (82, [none, some (.ref x1), some (.int v25), none, none, none], [.ref x1, .int v25], (mk B26), B26.kc, B26.kn)) rfl ?_
  obtain ⟨uh28, h28, hr⟩ := bd_some hr
  obtain ⟨v30, h29, hr⟩ := bd_some hr
  refine x_cW (m_255 h29) rfl rfl rfl rfl (am_recv_x h28) (by omega) ?_
  rcases ite_some hr with ⟨h31, hr⟩ | ⟨h31, hr⟩
  · refine x_ct rfl rfl (decide_eq_true h31) ?_
    refine x_b 1 (S2 := (93, [none, some (.ref x1), some (.int v25), none, none, none], [.int 0], (mk B26), B26.kc, B26.kn)) rfl ?_
    refine x_fg (Lq.s (Lq.n (Lq.n (Lq.s (Lq.s (Lq.s Lq.nil)))))) ?_
    exact j_369_0_j93 hd hr kr
  · refine x_cf rfl rfl (decide_eq_false h31) ?_
    refine x_b 2 (S2 := (93, [none, some (.ref x1), some (.int v25), none, none, none], [.int 1], (mk B26), B26.kc, B26.kn)) rfl ?_
    refine x_fg (Lq.s (Lq.n (Lq.n (Lq.s (Lq.s (Lq.s Lq.nil)))))) ?_
    exact j_369_0_j93 hd hr kr
theorem m_369 {scr : ASc} {B : Wd} {x1 : Nat} {o : Int32 × Wd} (hr : F_369 B x1 = some o) : RnW scr 10 369 [.ref 0, .ref x1] B (.inl (some (.int o.1))) o.2 :=
  x_methW (M := am_M369) rfl (show 2 ≤ 6 by decide) (f_369 (Nat.le_refl _) hr rfl)
/-- PebbleProofsLaw.put(LPebbleProofs;II)I -/
def F_370 (B : Wd) (x1 : Int32) (x2 : Int32) : Option (Int32 × Wd) :=
  (F_86 B x1 x2).bind fun (r2, B3) =>
  xq r2 (fun X4 =>
    if X4 = 2 then (
      some ((3294967295 : Int32), B3)) else if X4 = 1 then (
      some ((3294967294 : Int32), B3)) else none) fun v5 =>
  some (v5, B3)
theorem f_370 {d : Nat} (hd : 9 ≤ d) {scr : ASc} {res : ARe} {B : Wd} {x1 : Int32} {x2 : Int32} {o : Int32 × Wd} (hr : F_370 B x1 x2 = some o) (kr : res = (.inl (some (.int o.1)), mk o.2, Wd.kc o.2, Wd.kn o.2)) : Ex d am_M370 scr (0, [some (.ref 0), some (.int x1), some (.int x2), none], [], (mk B), B.kc, B.kn) res := by
  delta F_370 at hr
  refine x_b 3 (S2 := (3, [some (.ref 0), some (.int x1), some (.int x2), none], [.int x2, .int x1, .ref 0], (mk B), B.kc, B.kn)) rfl ?_
  obtain ⟨⟨r2, B3⟩, h1, hr⟩ := bd_some hr
  have hr9 := xq_some hr
  clear hr
  rcases hr9 with ⟨X4, rfl, hr⟩ | ⟨v5, rfl, hr⟩
  · rcases ite_some hr with ⟨h6, hr⟩ | ⟨h6, hr⟩
    · subst h6
      refine x_cH (m_86 h1) rfl rfl rfl rfl (am_recv_v ((rg_pp (W := B)).lt (i := 0) (show 0 < 1 by decide)) ((rg_pp (W := B)).at (i := 0) rfl) rfl) (by omega) rfl rfl ?_
      refine x_b 1 (S2 := (10, [some (.ref 0), some (.int x1), some (.int x2), none], [.int (3294967295 : Int32)], (mk B3), B3.kc, B3.kn)) rfl ?_
      cases hr
      rw [kr]
      exact x_ret rfl rfl am_ret_i
    rcases ite_some hr with ⟨h7, hr⟩ | ⟨h7, hr⟩
    · subst h7
      refine x_cH (m_86 h1) rfl rfl rfl rfl (am_recv_v ((rg_pp (W := B)).lt (i := 0) (show 0 < 1 by decide)) ((rg_pp (W := B)).at (i := 0) rfl) rfl) (by omega) rfl rfl ?_
      refine x_b 1 (S2 := (14, [some (.ref 0), some (.int x1), some (.int x2), none], [.int (3294967294 : Int32)], (mk B3), B3.kc, B3.kn)) rfl ?_
      cases hr
      rw [kr]
      exact x_ret rfl rfl am_ret_i
    cases hr
  refine x_cW (m_86 h1) rfl rfl rfl rfl (am_recv_v ((rg_pp (W := B)).lt (i := 0) (show 0 < 1 by decide)) ((rg_pp (W := B)).at (i := 0) rfl) rfl) (by omega) ?_
  cases hr
  rw [kr]
  exact x_ret rfl rfl am_ret_i
theorem m_370 {scr : ASc} {B : Wd} {x1 : Int32} {x2 : Int32} {o : Int32 × Wd} (hr : F_370 B x1 x2 = some o) : RnW scr 10 370 [.ref 0, .int x1, .int x2] B (.inl (some (.int o.1))) o.2 :=
  x_methW (M := am_M370) rfl (show 3 ≤ 4 by decide) (f_370 (Nat.le_refl _) hr rfl)
/-- PebbleProofsLaw.move(LPebbleProofs;II)I -/
def F_371 (B : Wd) (x1 : Int32) (x2 : Int32) : Option (Int32 × Wd) :=
  (F_88 B x1 x2).bind fun (r2, B3) =>
  xq r2 (fun X4 =>
    if X4 = 2 then (
      some ((3294967295 : Int32), B3)) else if X4 = 0 then (
      some ((3294967293 : Int32), B3)) else none) fun v5 =>
  some (v5, B3)
theorem f_371 {d : Nat} (hd : 9 ≤ d) {scr : ASc} {res : ARe} {B : Wd} {x1 : Int32} {x2 : Int32} {o : Int32 × Wd} (hr : F_371 B x1 x2 = some o) (kr : res = (.inl (some (.int o.1)), mk o.2, Wd.kc o.2, Wd.kn o.2)) : Ex d am_M371 scr (0, [some (.ref 0), some (.int x1), some (.int x2), none], [], (mk B), B.kc, B.kn) res := by
  delta F_371 at hr
  refine x_b 3 (S2 := (3, [some (.ref 0), some (.int x1), some (.int x2), none], [.int x2, .int x1, .ref 0], (mk B), B.kc, B.kn)) rfl ?_
  obtain ⟨⟨r2, B3⟩, h1, hr⟩ := bd_some hr
  have hr9 := xq_some hr
  clear hr
  rcases hr9 with ⟨X4, rfl, hr⟩ | ⟨v5, rfl, hr⟩
  · rcases ite_some hr with ⟨h6, hr⟩ | ⟨h6, hr⟩
    · subst h6
      refine x_cH (m_88 h1) rfl rfl rfl rfl (am_recv_v ((rg_pp (W := B)).lt (i := 0) (show 0 < 1 by decide)) ((rg_pp (W := B)).at (i := 0) rfl) rfl) (by omega) rfl rfl ?_
      refine x_b 1 (S2 := (10, [some (.ref 0), some (.int x1), some (.int x2), none], [.int (3294967295 : Int32)], (mk B3), B3.kc, B3.kn)) rfl ?_
      cases hr
      rw [kr]
      exact x_ret rfl rfl am_ret_i
    rcases ite_some hr with ⟨h7, hr⟩ | ⟨h7, hr⟩
    · subst h7
      refine x_cH (m_88 h1) rfl rfl rfl rfl (am_recv_v ((rg_pp (W := B)).lt (i := 0) (show 0 < 1 by decide)) ((rg_pp (W := B)).at (i := 0) rfl) rfl) (by omega) rfl rfl ?_
      refine x_b 1 (S2 := (14, [some (.ref 0), some (.int x1), some (.int x2), none], [.int (3294967293 : Int32)], (mk B3), B3.kc, B3.kn)) rfl ?_
      cases hr
      rw [kr]
      exact x_ret rfl rfl am_ret_i
    cases hr
  refine x_cW (m_88 h1) rfl rfl rfl rfl (am_recv_v ((rg_pp (W := B)).lt (i := 0) (show 0 < 1 by decide)) ((rg_pp (W := B)).at (i := 0) rfl) rfl) (by omega) ?_
  cases hr
  rw [kr]
  exact x_ret rfl rfl am_ret_i
theorem m_371 {scr : ASc} {B : Wd} {x1 : Int32} {x2 : Int32} {o : Int32 × Wd} (hr : F_371 B x1 x2 = some o) : RnW scr 10 371 [.ref 0, .int x1, .int x2] B (.inl (some (.int o.1))) o.2 :=
  x_methW (M := am_M371) rfl (show 3 ≤ 4 by decide) (f_371 (Nat.le_refl _) hr rfl)
/-- PebbleProofsLaw.reach(LPebbleProofs;I)I -/
def F_372 (B : Wd) (x1 : Int32) : Option (Int32 × Wd) :=
  (F_89 B x1).bind fun (r2, B3) =>
  xq r2 (fun X4 =>
    if X4 = 2 then (
      some ((3294967295 : Int32), B3)) else if X4 = 0 then (
      some ((3294967293 : Int32), B3)) else none) fun v5 =>
  some (v5, B3)
theorem f_372 {d : Nat} (hd : 9 ≤ d) {scr : ASc} {res : ARe} {B : Wd} {x1 : Int32} {o : Int32 × Wd} (hr : F_372 B x1 = some o) (kr : res = (.inl (some (.int o.1)), mk o.2, Wd.kc o.2, Wd.kn o.2)) : Ex d am_M372 scr (0, [some (.ref 0), some (.int x1), none], [], (mk B), B.kc, B.kn) res := by
  delta F_372 at hr
  refine x_b 2 (S2 := (2, [some (.ref 0), some (.int x1), none], [.int x1, .ref 0], (mk B), B.kc, B.kn)) rfl ?_
  obtain ⟨⟨r2, B3⟩, h1, hr⟩ := bd_some hr
  have hr9 := xq_some hr
  clear hr
  rcases hr9 with ⟨X4, rfl, hr⟩ | ⟨v5, rfl, hr⟩
  · rcases ite_some hr with ⟨h6, hr⟩ | ⟨h6, hr⟩
    · subst h6
      refine x_cH (m_89 h1) rfl rfl rfl rfl (am_recv_v ((rg_pp (W := B)).lt (i := 0) (show 0 < 1 by decide)) ((rg_pp (W := B)).at (i := 0) rfl) rfl) (by omega) rfl rfl ?_
      refine x_b 1 (S2 := (9, [some (.ref 0), some (.int x1), none], [.int (3294967295 : Int32)], (mk B3), B3.kc, B3.kn)) rfl ?_
      cases hr
      rw [kr]
      exact x_ret rfl rfl am_ret_i
    rcases ite_some hr with ⟨h7, hr⟩ | ⟨h7, hr⟩
    · subst h7
      refine x_cH (m_89 h1) rfl rfl rfl rfl (am_recv_v ((rg_pp (W := B)).lt (i := 0) (show 0 < 1 by decide)) ((rg_pp (W := B)).at (i := 0) rfl) rfl) (by omega) rfl rfl ?_
      refine x_b 1 (S2 := (13, [some (.ref 0), some (.int x1), none], [.int (3294967293 : Int32)], (mk B3), B3.kc, B3.kn)) rfl ?_
      cases hr
      rw [kr]
      exact x_ret rfl rfl am_ret_i
    cases hr
  refine x_cW (m_89 h1) rfl rfl rfl rfl (am_recv_v ((rg_pp (W := B)).lt (i := 0) (show 0 < 1 by decide)) ((rg_pp (W := B)).at (i := 0) rfl) rfl) (by omega) ?_
  cases hr
  rw [kr]
  exact x_ret rfl rfl am_ret_i
theorem m_372 {scr : ASc} {B : Wd} {x1 : Int32} {o : Int32 × Wd} (hr : F_372 B x1 = some o) : RnW scr 10 372 [.ref 0, .int x1] B (.inl (some (.int o.1))) o.2 :=
  x_methW (M := am_M372) rfl (show 2 ≤ 3 by decide) (f_372 (Nat.le_refl _) hr rfl)
/-- PebbleProofsLaw.addEdge(LPebbleProofs;II)I -/
def F_373 (B : Wd) (x1 : Int32) (x2 : Int32) : Option (Int32 × Wd) :=
  (F_84 B x1 x2).bind fun (r2, B3) =>
  xq r2 (fun X4 =>
    if X4 = 2 then (
      some ((3294967295 : Int32), B3)) else if X4 = 1 then (
      some ((3294967294 : Int32), B3)) else if X4 = 0 then (
      some ((3294967293 : Int32), B3)) else none) fun v5 =>
  some (v5, B3)
theorem f_373 {d : Nat} (hd : 10 ≤ d) {scr : ASc} {res : ARe} {B : Wd} {x1 : Int32} {x2 : Int32} {o : Int32 × Wd} (hr : F_373 B x1 x2 = some o) (kr : res = (.inl (some (.int o.1)), mk o.2, Wd.kc o.2, Wd.kn o.2)) : Ex d am_M373 scr (0, [some (.ref 0), some (.int x1), some (.int x2), none], [], (mk B), B.kc, B.kn) res := by
  delta F_373 at hr
  refine x_b 3 (S2 := (3, [some (.ref 0), some (.int x1), some (.int x2), none], [.int x2, .int x1, .ref 0], (mk B), B.kc, B.kn)) rfl ?_
  obtain ⟨⟨r2, B3⟩, h1, hr⟩ := bd_some hr
  have hr9 := xq_some hr
  clear hr
  rcases hr9 with ⟨X4, rfl, hr⟩ | ⟨v5, rfl, hr⟩
  · rcases ite_some hr with ⟨h6, hr⟩ | ⟨h6, hr⟩
    · subst h6
      refine x_cH (m_84 h1) rfl rfl rfl rfl (am_recv_v ((rg_pp (W := B)).lt (i := 0) (show 0 < 1 by decide)) ((rg_pp (W := B)).at (i := 0) rfl) rfl) (by omega) rfl rfl ?_
      refine x_b 1 (S2 := (10, [some (.ref 0), some (.int x1), some (.int x2), none], [.int (3294967295 : Int32)], (mk B3), B3.kc, B3.kn)) rfl ?_
      cases hr
      rw [kr]
      exact x_ret rfl rfl am_ret_i
    rcases ite_some hr with ⟨h7, hr⟩ | ⟨h7, hr⟩
    · subst h7
      refine x_cH (m_84 h1) rfl rfl rfl rfl (am_recv_v ((rg_pp (W := B)).lt (i := 0) (show 0 < 1 by decide)) ((rg_pp (W := B)).at (i := 0) rfl) rfl) (by omega) rfl rfl ?_
      refine x_b 1 (S2 := (14, [some (.ref 0), some (.int x1), some (.int x2), none], [.int (3294967294 : Int32)], (mk B3), B3.kc, B3.kn)) rfl ?_
      cases hr
      rw [kr]
      exact x_ret rfl rfl am_ret_i
    rcases ite_some hr with ⟨h8, hr⟩ | ⟨h8, hr⟩
    · subst h8
      refine x_cH (m_84 h1) rfl rfl rfl rfl (am_recv_v ((rg_pp (W := B)).lt (i := 0) (show 0 < 1 by decide)) ((rg_pp (W := B)).at (i := 0) rfl) rfl) (by omega) rfl rfl ?_
      refine x_b 1 (S2 := (18, [some (.ref 0), some (.int x1), some (.int x2), none], [.int (3294967293 : Int32)], (mk B3), B3.kc, B3.kn)) rfl ?_
      cases hr
      rw [kr]
      exact x_ret rfl rfl am_ret_i
    cases hr
  refine x_cW (m_84 h1) rfl rfl rfl rfl (am_recv_v ((rg_pp (W := B)).lt (i := 0) (show 0 < 1 by decide)) ((rg_pp (W := B)).at (i := 0) rfl) rfl) (by omega) ?_
  cases hr
  rw [kr]
  exact x_ret rfl rfl am_ret_i
theorem m_373 {scr : ASc} {B : Wd} {x1 : Int32} {x2 : Int32} {o : Int32 × Wd} (hr : F_373 B x1 x2 = some o) : RnW scr 11 373 [.ref 0, .int x1, .int x2] B (.inl (some (.int o.1))) o.2 :=
  x_methW (M := am_M373) rfl (show 3 ≤ 4 by decide) (f_373 (Nat.le_refl _) hr rfl)
/-- PebbleProofsLaw.removeEdge(LPebbleProofs;II)I -/
def F_374 (B : Wd) (x1 : Int32) (x2 : Int32) : Option (Int32 × Wd) :=
  (F_85 B x1 x2).bind fun (r2, B3) =>
  xq r2 (fun X4 =>
    if X4 = 2 then (
      some ((3294967295 : Int32), B3)) else if X4 = 1 then (
      some ((3294967294 : Int32), B3)) else if X4 = 0 then (
      some ((3294967293 : Int32), B3)) else none) fun v5 =>
  some (v5, B3)
theorem f_374 {d : Nat} (hd : 10 ≤ d) {scr : ASc} {res : ARe} {B : Wd} {x1 : Int32} {x2 : Int32} {o : Int32 × Wd} (hr : F_374 B x1 x2 = some o) (kr : res = (.inl (some (.int o.1)), mk o.2, Wd.kc o.2, Wd.kn o.2)) : Ex d am_M374 scr (0, [some (.ref 0), some (.int x1), some (.int x2), none], [], (mk B), B.kc, B.kn) res := by
  delta F_374 at hr
  refine x_b 3 (S2 := (3, [some (.ref 0), some (.int x1), some (.int x2), none], [.int x2, .int x1, .ref 0], (mk B), B.kc, B.kn)) rfl ?_
  obtain ⟨⟨r2, B3⟩, h1, hr⟩ := bd_some hr
  have hr9 := xq_some hr
  clear hr
  rcases hr9 with ⟨X4, rfl, hr⟩ | ⟨v5, rfl, hr⟩
  · rcases ite_some hr with ⟨h6, hr⟩ | ⟨h6, hr⟩
    · subst h6
      refine x_cH (m_85 h1) rfl rfl rfl rfl (am_recv_v ((rg_pp (W := B)).lt (i := 0) (show 0 < 1 by decide)) ((rg_pp (W := B)).at (i := 0) rfl) rfl) (by omega) rfl rfl ?_
      refine x_b 1 (S2 := (10, [some (.ref 0), some (.int x1), some (.int x2), none], [.int (3294967295 : Int32)], (mk B3), B3.kc, B3.kn)) rfl ?_
      cases hr
      rw [kr]
      exact x_ret rfl rfl am_ret_i
    rcases ite_some hr with ⟨h7, hr⟩ | ⟨h7, hr⟩
    · subst h7
      refine x_cH (m_85 h1) rfl rfl rfl rfl (am_recv_v ((rg_pp (W := B)).lt (i := 0) (show 0 < 1 by decide)) ((rg_pp (W := B)).at (i := 0) rfl) rfl) (by omega) rfl rfl ?_
      refine x_b 1 (S2 := (14, [some (.ref 0), some (.int x1), some (.int x2), none], [.int (3294967294 : Int32)], (mk B3), B3.kc, B3.kn)) rfl ?_
      cases hr
      rw [kr]
      exact x_ret rfl rfl am_ret_i
    rcases ite_some hr with ⟨h8, hr⟩ | ⟨h8, hr⟩
    · subst h8
      refine x_cH (m_85 h1) rfl rfl rfl rfl (am_recv_v ((rg_pp (W := B)).lt (i := 0) (show 0 < 1 by decide)) ((rg_pp (W := B)).at (i := 0) rfl) rfl) (by omega) rfl rfl ?_
      refine x_b 1 (S2 := (18, [some (.ref 0), some (.int x1), some (.int x2), none], [.int (3294967293 : Int32)], (mk B3), B3.kc, B3.kn)) rfl ?_
      cases hr
      rw [kr]
      exact x_ret rfl rfl am_ret_i
    cases hr
  refine x_cW (m_85 h1) rfl rfl rfl rfl (am_recv_v ((rg_pp (W := B)).lt (i := 0) (show 0 < 1 by decide)) ((rg_pp (W := B)).at (i := 0) rfl) rfl) (by omega) ?_
  cases hr
  rw [kr]
  exact x_ret rfl rfl am_ret_i
theorem m_374 {scr : ASc} {B : Wd} {x1 : Int32} {x2 : Int32} {o : Int32 × Wd} (hr : F_374 B x1 x2 = some o) : RnW scr 11 374 [.ref 0, .int x1, .int x2] B (.inl (some (.int o.1))) o.2 :=
  x_methW (M := am_M374) rfl (show 3 ≤ 4 by decide) (f_374 (Nat.le_refl _) hr rfl)
/-- PebbleProofsLaw.take(LPebbleProofs;II)I -/
def F_375 (B : Wd) (x1 : Int32) (x2 : Int32) : Option (Int32 × Wd) :=
  (F_87 B x1 x2).bind fun (r2, B3) =>
  xq r2 (fun X4 =>
    if X4 = 2 then (
      some ((3294967295 : Int32), B3)) else if X4 = 1 then (
      some ((3294967294 : Int32), B3)) else if X4 = 0 then (
      some ((3294967293 : Int32), B3)) else none) fun v5 =>
  some (v5, B3)
theorem f_375 {d : Nat} (hd : 9 ≤ d) {scr : ASc} {res : ARe} {B : Wd} {x1 : Int32} {x2 : Int32} {o : Int32 × Wd} (hr : F_375 B x1 x2 = some o) (kr : res = (.inl (some (.int o.1)), mk o.2, Wd.kc o.2, Wd.kn o.2)) : Ex d am_M375 scr (0, [some (.ref 0), some (.int x1), some (.int x2), none], [], (mk B), B.kc, B.kn) res := by
  delta F_375 at hr
  refine x_b 3 (S2 := (3, [some (.ref 0), some (.int x1), some (.int x2), none], [.int x2, .int x1, .ref 0], (mk B), B.kc, B.kn)) rfl ?_
  obtain ⟨⟨r2, B3⟩, h1, hr⟩ := bd_some hr
  have hr9 := xq_some hr
  clear hr
  rcases hr9 with ⟨X4, rfl, hr⟩ | ⟨v5, rfl, hr⟩
  · rcases ite_some hr with ⟨h6, hr⟩ | ⟨h6, hr⟩
    · subst h6
      refine x_cH (m_87 h1) rfl rfl rfl rfl (am_recv_v ((rg_pp (W := B)).lt (i := 0) (show 0 < 1 by decide)) ((rg_pp (W := B)).at (i := 0) rfl) rfl) (by omega) rfl rfl ?_
      refine x_b 1 (S2 := (10, [some (.ref 0), some (.int x1), some (.int x2), none], [.int (3294967295 : Int32)], (mk B3), B3.kc, B3.kn)) rfl ?_
      cases hr
      rw [kr]
      exact x_ret rfl rfl am_ret_i
    rcases ite_some hr with ⟨h7, hr⟩ | ⟨h7, hr⟩
    · subst h7
      refine x_cH (m_87 h1) rfl rfl rfl rfl (am_recv_v ((rg_pp (W := B)).lt (i := 0) (show 0 < 1 by decide)) ((rg_pp (W := B)).at (i := 0) rfl) rfl) (by omega) rfl rfl ?_
      refine x_b 1 (S2 := (14, [some (.ref 0), some (.int x1), some (.int x2), none], [.int (3294967294 : Int32)], (mk B3), B3.kc, B3.kn)) rfl ?_
      cases hr
      rw [kr]
      exact x_ret rfl rfl am_ret_i
    rcases ite_some hr with ⟨h8, hr⟩ | ⟨h8, hr⟩
    · subst h8
      refine x_cH (m_87 h1) rfl rfl rfl rfl (am_recv_v ((rg_pp (W := B)).lt (i := 0) (show 0 < 1 by decide)) ((rg_pp (W := B)).at (i := 0) rfl) rfl) (by omega) rfl rfl ?_
      refine x_b 1 (S2 := (18, [some (.ref 0), some (.int x1), some (.int x2), none], [.int (3294967293 : Int32)], (mk B3), B3.kc, B3.kn)) rfl ?_
      cases hr
      rw [kr]
      exact x_ret rfl rfl am_ret_i
    cases hr
  refine x_cW (m_87 h1) rfl rfl rfl rfl (am_recv_v ((rg_pp (W := B)).lt (i := 0) (show 0 < 1 by decide)) ((rg_pp (W := B)).at (i := 0) rfl) rfl) (by omega) ?_
  cases hr
  rw [kr]
  exact x_ret rfl rfl am_ret_i
theorem m_375 {scr : ASc} {B : Wd} {x1 : Int32} {x2 : Int32} {o : Int32 × Wd} (hr : F_375 B x1 x2 = some o) : RnW scr 10 375 [.ref 0, .int x1, .int x2] B (.inl (some (.int o.1))) o.2 :=
  x_methW (M := am_M375) rfl (show 3 ≤ 4 by decide) (f_375 (Nat.le_refl _) hr rfl)
/-- PebbleProofsLaw.addStrategy(LPebbleProofs;I)I -/
def F_376 (B : Wd) (x1 : Int32) : Option (Int32 × Wd) :=
  (F_90 B x1).bind fun (r2, B3) =>
  xq r2 (fun X4 =>
    if X4 = 2 then (
      some ((3294967295 : Int32), B3)) else if X4 = 0 then (
      some ((3294967293 : Int32), B3)) else none) fun v5 =>
  some (v5, B3)
theorem f_376 {d : Nat} (hd : 9 ≤ d) {scr : ASc} {res : ARe} {B : Wd} {x1 : Int32} {o : Int32 × Wd} (hr : F_376 B x1 = some o) (kr : res = (.inl (some (.int o.1)), mk o.2, Wd.kc o.2, Wd.kn o.2)) : Ex d am_M376 scr (0, [some (.ref 0), some (.int x1), none], [], (mk B), B.kc, B.kn) res := by
  delta F_376 at hr
  refine x_b 2 (S2 := (2, [some (.ref 0), some (.int x1), none], [.int x1, .ref 0], (mk B), B.kc, B.kn)) rfl ?_
  obtain ⟨⟨r2, B3⟩, h1, hr⟩ := bd_some hr
  have hr9 := xq_some hr
  clear hr
  rcases hr9 with ⟨X4, rfl, hr⟩ | ⟨v5, rfl, hr⟩
  · rcases ite_some hr with ⟨h6, hr⟩ | ⟨h6, hr⟩
    · subst h6
      refine x_cH (m_90 h1) rfl rfl rfl rfl (am_recv_v ((rg_pp (W := B)).lt (i := 0) (show 0 < 1 by decide)) ((rg_pp (W := B)).at (i := 0) rfl) rfl) (by omega) rfl rfl ?_
      refine x_b 1 (S2 := (9, [some (.ref 0), some (.int x1), none], [.int (3294967295 : Int32)], (mk B3), B3.kc, B3.kn)) rfl ?_
      cases hr
      rw [kr]
      exact x_ret rfl rfl am_ret_i
    rcases ite_some hr with ⟨h7, hr⟩ | ⟨h7, hr⟩
    · subst h7
      refine x_cH (m_90 h1) rfl rfl rfl rfl (am_recv_v ((rg_pp (W := B)).lt (i := 0) (show 0 < 1 by decide)) ((rg_pp (W := B)).at (i := 0) rfl) rfl) (by omega) rfl rfl ?_
      refine x_b 1 (S2 := (13, [some (.ref 0), some (.int x1), none], [.int (3294967293 : Int32)], (mk B3), B3.kc, B3.kn)) rfl ?_
      cases hr
      rw [kr]
      exact x_ret rfl rfl am_ret_i
    cases hr
  refine x_cW (m_90 h1) rfl rfl rfl rfl (am_recv_v ((rg_pp (W := B)).lt (i := 0) (show 0 < 1 by decide)) ((rg_pp (W := B)).at (i := 0) rfl) rfl) (by omega) ?_
  cases hr
  rw [kr]
  exact x_ret rfl rfl am_ret_i
theorem m_376 {scr : ASc} {B : Wd} {x1 : Int32} {o : Int32 × Wd} (hr : F_376 B x1 = some o) : RnW scr 10 376 [.ref 0, .int x1] B (.inl (some (.int o.1))) o.2 :=
  x_methW (M := am_M376) rfl (show 2 ≤ 3 by decide) (f_376 (Nat.le_refl _) hr rfl)
/-- PebbleProofsLaw.weigh(LPebbleProofs;IIII)I -/
def F_377 (B : Wd) (x1 : Int32) (x2 : Int32) (x3 : Int32) (x4 : Int32) : Option (Int32 × Wd) :=
  (F_91 B x1 x2 x3 x4).bind fun (r2, B3) =>
  xq r2 (fun X4 =>
    if X4 = 2 then (
      some ((3294967295 : Int32), B3)) else if X4 = 1 then (
      some ((3294967294 : Int32), B3)) else none) fun v5 =>
  some (v5, B3)
theorem f_377 {d : Nat} (hd : 9 ≤ d) {scr : ASc} {res : ARe} {B : Wd} {x1 : Int32} {x2 : Int32} {x3 : Int32} {x4 : Int32} {o : Int32 × Wd} (hr : F_377 B x1 x2 x3 x4 = some o) (kr : res = (.inl (some (.int o.1)), mk o.2, Wd.kc o.2, Wd.kn o.2)) : Ex d am_M377 scr (0, [some (.ref 0), some (.int x1), some (.int x2), some (.int x3), some (.int x4), none], [], (mk B), B.kc, B.kn) res := by
  delta F_377 at hr
  refine x_b 5 (S2 := (6, [some (.ref 0), some (.int x1), some (.int x2), some (.int x3), some (.int x4), none], [.int x4, .int x3, .int x2, .int x1, .ref 0], (mk B), B.kc, B.kn)) rfl ?_
  obtain ⟨⟨r2, B3⟩, h1, hr⟩ := bd_some hr
  have hr9 := xq_some hr
  clear hr
  rcases hr9 with ⟨X4, rfl, hr⟩ | ⟨v5, rfl, hr⟩
  · rcases ite_some hr with ⟨h6, hr⟩ | ⟨h6, hr⟩
    · subst h6
      refine x_cH (m_91 h1) rfl rfl rfl rfl (am_recv_v ((rg_pp (W := B)).lt (i := 0) (show 0 < 1 by decide)) ((rg_pp (W := B)).at (i := 0) rfl) rfl) (by omega) rfl rfl ?_
      refine x_b 1 (S2 := (14, [some (.ref 0), some (.int x1), some (.int x2), some (.int x3), some (.int x4), none], [.int (3294967295 : Int32)], (mk B3), B3.kc, B3.kn)) rfl ?_
      cases hr
      rw [kr]
      exact x_ret rfl rfl am_ret_i
    rcases ite_some hr with ⟨h7, hr⟩ | ⟨h7, hr⟩
    · subst h7
      refine x_cH (m_91 h1) rfl rfl rfl rfl (am_recv_v ((rg_pp (W := B)).lt (i := 0) (show 0 < 1 by decide)) ((rg_pp (W := B)).at (i := 0) rfl) rfl) (by omega) rfl rfl ?_
      refine x_b 1 (S2 := (19, [some (.ref 0), some (.int x1), some (.int x2), some (.int x3), some (.int x4), none], [.int (3294967294 : Int32)], (mk B3), B3.kc, B3.kn)) rfl ?_
      cases hr
      rw [kr]
      exact x_ret rfl rfl am_ret_i
    cases hr
  refine x_cW (m_91 h1) rfl rfl rfl rfl (am_recv_v ((rg_pp (W := B)).lt (i := 0) (show 0 < 1 by decide)) ((rg_pp (W := B)).at (i := 0) rfl) rfl) (by omega) ?_
  cases hr
  rw [kr]
  exact x_ret rfl rfl am_ret_i
theorem m_377 {scr : ASc} {B : Wd} {x1 : Int32} {x2 : Int32} {x3 : Int32} {x4 : Int32} {o : Int32 × Wd} (hr : F_377 B x1 x2 x3 x4 = some o) : RnW scr 10 377 [.ref 0, .int x1, .int x2, .int x3, .int x4] B (.inl (some (.int o.1))) o.2 :=
  x_methW (M := am_M377) rfl (show 5 ≤ 6 by decide) (f_377 (Nat.le_refl _) hr rfl)
/-- PebbleProofsLaw.dropStrategy(LPebbleProofs;I)I -/
def F_378 (B : Wd) (x1 : Int32) : Option (Int32 × Wd) :=
  (F_92 B x1).bind fun (r2, B3) =>
  xq r2 (fun X4 =>
    if X4 = 2 then (
      some ((3294967295 : Int32), B3)) else none) fun v5 =>
  some (v5, B3)
theorem f_378 {d : Nat} (hd : 9 ≤ d) {scr : ASc} {res : ARe} {B : Wd} {x1 : Int32} {o : Int32 × Wd} (hr : F_378 B x1 = some o) (kr : res = (.inl (some (.int o.1)), mk o.2, Wd.kc o.2, Wd.kn o.2)) : Ex d am_M378 scr (0, [some (.ref 0), some (.int x1), none], [], (mk B), B.kc, B.kn) res := by
  delta F_378 at hr
  refine x_b 2 (S2 := (2, [some (.ref 0), some (.int x1), none], [.int x1, .ref 0], (mk B), B.kc, B.kn)) rfl ?_
  obtain ⟨⟨r2, B3⟩, h1, hr⟩ := bd_some hr
  have hr9 := xq_some hr
  clear hr
  rcases hr9 with ⟨X4, rfl, hr⟩ | ⟨v5, rfl, hr⟩
  · rcases ite_some hr with ⟨h6, hr⟩ | ⟨h6, hr⟩
    · subst h6
      refine x_cH (m_92 h1) rfl rfl rfl rfl (am_recv_v ((rg_pp (W := B)).lt (i := 0) (show 0 < 1 by decide)) ((rg_pp (W := B)).at (i := 0) rfl) rfl) (by omega) rfl rfl ?_
      refine x_b 1 (S2 := (9, [some (.ref 0), some (.int x1), none], [.int (3294967295 : Int32)], (mk B3), B3.kc, B3.kn)) rfl ?_
      cases hr
      rw [kr]
      exact x_ret rfl rfl am_ret_i
    cases hr
  refine x_cW (m_92 h1) rfl rfl rfl rfl (am_recv_v ((rg_pp (W := B)).lt (i := 0) (show 0 < 1 by decide)) ((rg_pp (W := B)).at (i := 0) rfl) rfl) (by omega) ?_
  cases hr
  rw [kr]
  exact x_ret rfl rfl am_ret_i
theorem m_378 {scr : ASc} {B : Wd} {x1 : Int32} {o : Int32 × Wd} (hr : F_378 B x1 = some o) : RnW scr 10 378 [.ref 0, .int x1] B (.inl (some (.int o.1))) o.2 :=
  x_methW (M := am_M378) rfl (show 2 ≤ 3 by decide) (f_378 (Nat.le_refl _) hr rfl)
/-- PebbleProofsLaw.undo(LPebbleProofs;)I -/
def F_379 (B : Wd) : Option (Int32 × Wd) :=
  (F_93 B).bind fun (r2, B3) =>
  xq r2 (fun X4 =>
    if X4 = 0 then (
      some ((3294967293 : Int32), B3)) else none) fun v5 =>
  some (v5, B3)
theorem f_379 {d : Nat} (hd : 8 ≤ d) {scr : ASc} {res : ARe} {B : Wd} {o : Int32 × Wd} (hr : F_379 B = some o) (kr : res = (.inl (some (.int o.1)), mk o.2, Wd.kc o.2, Wd.kn o.2)) : Ex d am_M379 scr (0, [some (.ref 0), none], [], (mk B), B.kc, B.kn) res := by
  delta F_379 at hr
  refine x_b 1 (S2 := (1, [some (.ref 0), none], [.ref 0], (mk B), B.kc, B.kn)) rfl ?_
  obtain ⟨⟨r2, B3⟩, h1, hr⟩ := bd_some hr
  have hr9 := xq_some hr
  clear hr
  rcases hr9 with ⟨X4, rfl, hr⟩ | ⟨v5, rfl, hr⟩
  · rcases ite_some hr with ⟨h6, hr⟩ | ⟨h6, hr⟩
    · subst h6
      refine x_cH (m_93 h1) rfl rfl rfl rfl (am_recv_v ((rg_pp (W := B)).lt (i := 0) (show 0 < 1 by decide)) ((rg_pp (W := B)).at (i := 0) rfl) rfl) (by omega) rfl rfl ?_
      refine x_b 1 (S2 := (8, [some (.ref 0), none], [.int (3294967293 : Int32)], (mk B3), B3.kc, B3.kn)) rfl ?_
      cases hr
      rw [kr]
      exact x_ret rfl rfl am_ret_i
    cases hr
  refine x_cW (m_93 h1) rfl rfl rfl rfl (am_recv_v ((rg_pp (W := B)).lt (i := 0) (show 0 < 1 by decide)) ((rg_pp (W := B)).at (i := 0) rfl) rfl) (by omega) ?_
  cases hr
  rw [kr]
  exact x_ret rfl rfl am_ret_i
theorem m_379 {scr : ASc} {B : Wd} {o : Int32 × Wd} (hr : F_379 B = some o) : RnW scr 9 379 [.ref 0] B (.inl (some (.int o.1))) o.2 :=
  x_methW (M := am_M379) rfl (show 1 ≤ 2 by decide) (f_379 (Nat.le_refl _) hr rfl)
/-- PebbleProofsLaw.restore(LPebbleProofs;)I -/
def F_380 (B : Wd) : Option (Int32 × Wd) :=
  (F_96 B).bind fun (r2, B3) =>
  xq r2 (fun X4 =>
    if X4 = 0 then (
      some ((3294967293 : Int32), B3)) else none) fun v5 =>
  some (v5, B3)
theorem f_380 {d : Nat} (hd : 8 ≤ d) {scr : ASc} {res : ARe} {B : Wd} {o : Int32 × Wd} (hr : F_380 B = some o) (kr : res = (.inl (some (.int o.1)), mk o.2, Wd.kc o.2, Wd.kn o.2)) : Ex d am_M380 scr (0, [some (.ref 0), none], [], (mk B), B.kc, B.kn) res := by
  delta F_380 at hr
  refine x_b 1 (S2 := (1, [some (.ref 0), none], [.ref 0], (mk B), B.kc, B.kn)) rfl ?_
  obtain ⟨⟨r2, B3⟩, h1, hr⟩ := bd_some hr
  have hr9 := xq_some hr
  clear hr
  rcases hr9 with ⟨X4, rfl, hr⟩ | ⟨v5, rfl, hr⟩
  · rcases ite_some hr with ⟨h6, hr⟩ | ⟨h6, hr⟩
    · subst h6
      refine x_cH (m_96 h1) rfl rfl rfl rfl (am_recv_v ((rg_pp (W := B)).lt (i := 0) (show 0 < 1 by decide)) ((rg_pp (W := B)).at (i := 0) rfl) rfl) (by omega) rfl rfl ?_
      refine x_b 1 (S2 := (8, [some (.ref 0), none], [.int (3294967293 : Int32)], (mk B3), B3.kc, B3.kn)) rfl ?_
      cases hr
      rw [kr]
      exact x_ret rfl rfl am_ret_i
    cases hr
  refine x_cW (m_96 h1) rfl rfl rfl rfl (am_recv_v ((rg_pp (W := B)).lt (i := 0) (show 0 < 1 by decide)) ((rg_pp (W := B)).at (i := 0) rfl) rfl) (by omega) ?_
  cases hr
  rw [kr]
  exact x_ret rfl rfl am_ret_i
theorem m_380 {scr : ASc} {B : Wd} {o : Int32 × Wd} (hr : F_380 B = some o) : RnW scr 9 380 [.ref 0] B (.inl (some (.int o.1))) o.2 :=
  x_methW (M := am_M380) rfl (show 1 ≤ 2 by decide) (f_380 (Nat.le_refl _) hr rfl)
def J_381_0_j17 (B : Wd) (t0 : Int32) : Option (Int32) :=
  (if t0 = 0 ∨ t0 = 1 then some () else none).bind fun _ =>
  some t0
theorem j_381_0_j17 {d : Nat} (hd : 1 ≤ d) {scr : ASc} {res : ARe} {B : Wd} {t0 : Int32} {o : Int32} (hr : J_381_0_j17 B t0 = some o) (kr : res = (.inl (some (.int o)), mk B, Wd.kc B, Wd.kn B)) : Ex d am_M381 scr (17, [none], [.int t0], (mk B), B.kc, B.kn) res := by
  delta J_381_0_j17 at hr
  obtain ⟨uh3, h3, hr⟩ := bd_some hr
  obtain ⟨h2, -⟩ := itn_some h3
  cases hr
  rw [kr]
  exact x_ret rfl rfl (am_ret_z h2)
def J_381_0_j16 (B : Wd) : Option (Int32) :=
  J_381_0_j17 B 0
theorem j_381_0_j16 {d : Nat} (hd : 1 ≤ d) {scr : ASc} {res : ARe} {B : Wd} {o : Int32} (hr : J_381_0_j16 B = some o) (kr : res = (.inl (some (.int o)), mk B, Wd.kc B, Wd.kn B)) : Ex d am_M381 scr (16, [none], [], (mk B), B.kc, B.kn) res := by
  delta J_381_0_j16 at hr
  refine x_b 1 (S2 := (17, [none], [.int 0], (mk B), B.kc, B.kn)) rfl ?_
  refine x_fg (Lq.s Lq.nil) ?_
  exact j_381_0_j17 hd hr kr
/-- PebbleProofsLaw.isError(I)Z -/
def F_381 (B : Wd) (x0 : Int32) : Option (Int32) :=
  if (3294967295 : Int32) < x0 then
    J_381_0_j16 B
  else
    if x0 < (3294967291 : Int32) then
      J_381_0_j16 B
    else
      J_381_0_j17 B 1
theorem f_381 {d : Nat} (hd : 1 ≤ d) {scr : ASc} {res : ARe} {B : Wd} {x0 : Int32} {o : Int32} (hr : F_381 B x0 = some o) (kr : res = (.inl (some (.int o)), mk B, Wd.kc B, Wd.kn B)) : Ex d am_M381 scr (0, [some (.int x0)], [], (mk B), B.kc, B.kn) res := by
  delta F_381 at hr
  refine x_b 2 (S2 := (3, [some (.int x0)], [.int (3294967295 : Int32), .int x0], (mk B), B.kc, B.kn)) rfl ?_
  rcases ite_some hr with ⟨h1, hr⟩ | ⟨h1, hr⟩
  · refine x_ct rfl rfl (decide_eq_true h1) ?_
    refine x_fg (Lq.n Lq.nil) ?_
    exact j_381_0_j16 hd hr kr
  · refine x_cf rfl rfl (decide_eq_false h1) ?_
    refine x_b 2 (S2 := (9, [some (.int x0)], [.int (3294967291 : Int32), .int x0], (mk B), B.kc, B.kn)) rfl ?_
    rcases ite_some hr with ⟨h4, hr⟩ | ⟨h4, hr⟩
    · refine x_ct rfl rfl (decide_eq_true h4) ?_
      refine x_fg (Lq.n Lq.nil) ?_
      exact j_381_0_j16 hd hr kr
    · refine x_cf rfl rfl (decide_eq_false h4) ?_
      refine x_b 2 (S2 := (17, [some (.int x0)], [.int 1], (mk B), B.kc, B.kn)) rfl ?_
      refine x_fg (Lq.n Lq.nil) ?_
      exact j_381_0_j17 hd hr kr
theorem m_381 {scr : ASc} {B : Wd} {x0 : Int32} {o : Int32} (hr : F_381 B x0 = some o) : RnW scr 2 381 [.int x0] B (.inl (some (.int o))) B :=
  x_methW (M := am_M381) rfl (show 1 ≤ 1 by decide) (f_381 (Nat.le_refl _) hr rfl)
def J_382_0_j18 (B : Wd) (t0 : Int32) : Option (Int32) :=
  some t0
theorem j_382_0_j18 {d : Nat} (hd : 1 ≤ d) {scr : ASc} {res : ARe} {B : Wd} {t0 : Int32} {o : Int32} (hr : J_382_0_j18 B t0 = some o) (kr : res = (.inl (some (.int o)), mk B, Wd.kc B, Wd.kn B)) : Ex d am_M382 scr (18, [none, none], [.int t0], (mk B), B.kc, B.kn) res := by
  delta J_382_0_j18 at hr
  cases hr
  rw [kr]
  exact x_ret rfl rfl am_ret_i
def J_382_0_j11 (B : Wd) (x1 : Int32) : Option (Int32) :=
  J_382_0_j18 B x1
theorem j_382_0_j11 {d : Nat} (hd : 1 ≤ d) {scr : ASc} {res : ARe} {B : Wd} {x1 : Int32} {o : Int32} (hr : J_382_0_j11 B x1 = some o) (kr : res = (.inl (some (.int o)), mk B, Wd.kc B, Wd.kn B)) : Ex d am_M382 scr (11, [none, some (.int x1)], [], (mk B), B.kc, B.kn) res := by
  delta J_382_0_j11 at hr
  refine x_b 2 (S2 := (18, [none, some (.int x1)], [.int x1], (mk B), B.kc, B.kn)) rfl ?_
  refine x_fg (Lq.s (Lq.n Lq.nil)) ?_
  exact j_382_0_j18 hd hr kr
/-- PebbleProofsLaw.one(II)I -/
def F_382 (B : Wd) (x0 : Int32) (x1 : Int32) : Option (Int32) :=
  if (x0 - x0 / 29 * 29) = 0 then
    J_382_0_j11 B x1
  else
    if ¬ x1 = 0 then
      if x1 = 0 then none else
      J_382_0_j18 B (x0 - x0 / x1 * x1)
    else
      J_382_0_j11 B x1
theorem f_382 {d : Nat} (hd : 1 ≤ d) {scr : ASc} {res : ARe} {B : Wd} {x0 : Int32} {x1 : Int32} {o : Int32} (hr : F_382 B x0 x1 = some o) (kr : res = (.inl (some (.int o)), mk B, Wd.kc B, Wd.kn B)) : Ex d am_M382 scr (0, [some (.int x0), some (.int x1)], [], (mk B), B.kc, B.kn) res := by
  delta F_382 at hr
  refine x_b 2 (S2 := (3, [some (.int x0), some (.int x1)], [.int 29, .int x0], (mk B), B.kc, B.kn)) rfl ?_
  refine x_rem rfl rfl (by decide) ?_
  rcases ite_some hr with ⟨h1, hr⟩ | ⟨h1, hr⟩
  · refine x_zt rfl rfl (decide_eq_true h1) ?_
    refine x_fg (Lq.n (Lq.s Lq.nil)) ?_
    exact j_382_0_j11 hd hr kr
  · refine x_zf rfl rfl (decide_eq_false h1) ?_
    refine x_b 1 (S2 := (8, [some (.int x0), some (.int x1)], [.int x1], (mk B), B.kc, B.kn)) rfl ?_
    rcases ite_some hr with ⟨h2, hr⟩ | ⟨h2, hr⟩
    · refine x_zt rfl rfl (decide_eq_true h2) ?_
      refine x_b 2 (S2 := (17, [some (.int x0), some (.int x1)], [.int x1, .int x0], (mk B), B.kc, B.kn)) rfl ?_
      rcases ite_some hr with ⟨h3, hr⟩ | ⟨h3, hr⟩
      · cases hr
      refine x_rem rfl rfl h3 ?_
      refine x_fg (Lq.n (Lq.n Lq.nil)) ?_
      exact j_382_0_j18 hd hr kr
    · refine x_zf rfl rfl (decide_eq_false h2) ?_
      refine x_fg (Lq.n (Lq.s Lq.nil)) ?_
      exact j_382_0_j11 hd hr kr
theorem m_382 {scr : ASc} {B : Wd} {x0 : Int32} {x1 : Int32} {o : Int32} (hr : F_382 B x0 x1 = some o) : RnW scr 2 382 [.int x0, .int x1] B (.inl (some (.int o))) B :=
  x_methW (M := am_M382) rfl (show 2 ≤ 2 by decide) (f_382 (Nat.le_refl _) hr rfl)
def J_383_0_j35 (B : Wd) (t0 : Int32) : Option (Int32) :=
  some t0
theorem j_383_0_j35 {d : Nat} (hd : 1 ≤ d) {scr : ASc} {res : ARe} {B : Wd} {t0 : Int32} {o : Int32} (hr : J_383_0_j35 B t0 = some o) (kr : res = (.inl (some (.int o)), mk B, Wd.kc B, Wd.kn B)) : Ex d am_M383 scr (35, [none, none, none], [.int t0], (mk B), B.kc, B.kn) res := by
  delta J_383_0_j35 at hr
  cases hr
  rw [kr]
  exact x_ret rfl rfl am_ret_i
/-- PebbleProofsLaw.some(III)I -/
def F_383 (B : Wd) (x0 : Int32) (x1 : Int32) (x2 : Int32) : Option (Int32) :=
  if ¬ (x0 - x0 / 31 * 31) = 0 then
    if ¬ (x0 - x0 / 37 * 37) = 0 then
      if ((x2 - x1) + 1) = 0 then none else
      J_383_0_j35 B (x1 + (x0 - x0 / ((x2 - x1) + 1) * ((x2 - x1) + 1)))
    else
      J_383_0_j35 B (x1 - 1)
  else
    J_383_0_j35 B (x2 + 1)
theorem f_383 {d : Nat} (hd : 1 ≤ d) {scr : ASc} {res : ARe} {B : Wd} {x0 : Int32} {x1 : Int32} {x2 : Int32} {o : Int32} (hr : F_383 B x0 x1 x2 = some o) (kr : res = (.inl (some (.int o)), mk B, Wd.kc B, Wd.kn B)) : Ex d am_M383 scr (0, [some (.int x0), some (.int x1), some (.int x2)], [], (mk B), B.kc, B.kn) res := by
  delta F_383 at hr
  refine x_b 2 (S2 := (3, [some (.int x0), some (.int x1), some (.int x2)], [.int 31, .int x0], (mk B), B.kc, B.kn)) rfl ?_
  refine x_rem rfl rfl (by decide) ?_
  rcases ite_some hr with ⟨h1, hr⟩ | ⟨h1, hr⟩
  · refine x_zt rfl rfl (decide_eq_true h1) ?_
    refine x_b 2 (S2 := (16, [some (.int x0), some (.int x1), some (.int x2)], [.int 37, .int x0], (mk B), B.kc, B.kn)) rfl ?_
    refine x_rem rfl rfl (by decide) ?_
    rcases ite_some hr with ⟨h2, hr⟩ | ⟨h2, hr⟩
    · refine x_zt rfl rfl (decide_eq_true h2) ?_
      refine x_b 7 (S2 := (33, [some (.int x0), some (.int x1), some (.int x2)], [.int ((x2 - x1) + 1), .int x0, .int x1], (mk B), B.kc, B.kn)) rfl ?_
      rcases ite_some hr with ⟨h3, hr⟩ | ⟨h3, hr⟩
      · cases hr
      refine x_rem rfl rfl h3 ?_
      refine x_b 1 (S2 := (35, [some (.int x0), some (.int x1), some (.int x2)], [.int (x1 + (x0 - x0 / ((x2 - x1) + 1) * ((x2 - x1) + 1)))], (mk B), B.kc, B.kn)) rfl ?_
      refine x_fg (Lq.n (Lq.n (Lq.n Lq.nil))) ?_
      exact j_383_0_j35 hd hr kr
    · refine x_zf rfl rfl (decide_eq_false h2) ?_
      refine x_b 4 (S2 := (35, [some (.int x0), some (.int x1), some (.int x2)], [.int (x1 - 1)], (mk B), B.kc, B.kn)) rfl ?_
      refine x_fg (Lq.n (Lq.n (Lq.n Lq.nil))) ?_
      exact j_383_0_j35 hd hr kr
  · refine x_zf rfl rfl (decide_eq_false h1) ?_
    refine x_b 4 (S2 := (35, [some (.int x0), some (.int x1), some (.int x2)], [.int (x2 + 1)], (mk B), B.kc, B.kn)) rfl ?_
    refine x_fg (Lq.n (Lq.n (Lq.n Lq.nil))) ?_
    exact j_383_0_j35 hd hr kr
theorem m_383 {scr : ASc} {B : Wd} {x0 : Int32} {x1 : Int32} {x2 : Int32} {o : Int32} (hr : F_383 B x0 x1 x2 = some o) : RnW scr 2 383 [.int x0, .int x1, .int x2] B (.inl (some (.int o))) B :=
  x_methW (M := am_M383) rfl (show 3 ≤ 3 by decide) (f_383 (Nat.le_refl _) hr rfl)
def J_384_0_j15 (B : Wd) (t0 : Int32) : Option (Int32) :=
  (if t0 = 0 ∨ t0 = 1 then some () else none).bind fun _ =>
  some t0
theorem j_384_0_j15 {d : Nat} (hd : 1 ≤ d) {scr : ASc} {res : ARe} {B : Wd} {t0 : Int32} {o : Int32} (hr : J_384_0_j15 B t0 = some o) (kr : res = (.inl (some (.int o)), mk B, Wd.kc B, Wd.kn B)) : Ex d am_M384 scr (15, [none, none, none], [.int t0], (mk B), B.kc, B.kn) res := by
  delta J_384_0_j15 at hr
  obtain ⟨uh3, h3, hr⟩ := bd_some hr
  obtain ⟨h2, -⟩ := itn_some h3
  cases hr
  rw [kr]
  exact x_ret rfl rfl (am_ret_z h2)
def J_384_0_j14 (B : Wd) : Option (Int32) :=
  J_384_0_j15 B 0
theorem j_384_0_j14 {d : Nat} (hd : 1 ≤ d) {scr : ASc} {res : ARe} {B : Wd} {o : Int32} (hr : J_384_0_j14 B = some o) (kr : res = (.inl (some (.int o)), mk B, Wd.kc B, Wd.kn B)) : Ex d am_M384 scr (14, [none, none, none], [], (mk B), B.kc, B.kn) res := by
  delta J_384_0_j14 at hr
  refine x_b 1 (S2 := (15, [none, none, none], [.int 0], (mk B), B.kc, B.kn)) rfl ?_
  refine x_fg (Lq.s (Lq.s (Lq.s Lq.nil))) ?_
  exact j_384_0_j15 hd hr kr
/-- PebbleProofsLaw.is(III)Z -/
def F_384 (B : Wd) (x0 : Int32) (x1 : Int32) (x2 : Int32) : Option (Int32) :=
  if x0 < x1 then
    J_384_0_j14 B
  else
    if x2 < x0 then
      J_384_0_j14 B
    else
      J_384_0_j15 B 1
theorem f_384 {d : Nat} (hd : 1 ≤ d) {scr : ASc} {res : ARe} {B : Wd} {x0 : Int32} {x1 : Int32} {x2 : Int32} {o : Int32} (hr : F_384 B x0 x1 x2 = some o) (kr : res = (.inl (some (.int o)), mk B, Wd.kc B, Wd.kn B)) : Ex d am_M384 scr (0, [some (.int x0), some (.int x1), some (.int x2)], [], (mk B), B.kc, B.kn) res := by
  delta F_384 at hr
  refine x_b 2 (S2 := (2, [some (.int x0), some (.int x1), some (.int x2)], [.int x1, .int x0], (mk B), B.kc, B.kn)) rfl ?_
  rcases ite_some hr with ⟨h1, hr⟩ | ⟨h1, hr⟩
  · refine x_ct rfl rfl (decide_eq_true h1) ?_
    refine x_fg (Lq.n (Lq.n (Lq.n Lq.nil))) ?_
    exact j_384_0_j14 hd hr kr
  · refine x_cf rfl rfl (decide_eq_false h1) ?_
    refine x_b 2 (S2 := (7, [some (.int x0), some (.int x1), some (.int x2)], [.int x2, .int x0], (mk B), B.kc, B.kn)) rfl ?_
    rcases ite_some hr with ⟨h4, hr⟩ | ⟨h4, hr⟩
    · refine x_ct rfl rfl (decide_eq_true h4) ?_
      refine x_fg (Lq.n (Lq.n (Lq.n Lq.nil))) ?_
      exact j_384_0_j14 hd hr kr
    · refine x_cf rfl rfl (decide_eq_false h4) ?_
      refine x_b 2 (S2 := (15, [some (.int x0), some (.int x1), some (.int x2)], [.int 1], (mk B), B.kc, B.kn)) rfl ?_
      refine x_fg (Lq.n (Lq.n (Lq.n Lq.nil))) ?_
      exact j_384_0_j15 hd hr kr
theorem m_384 {scr : ASc} {B : Wd} {x0 : Int32} {x1 : Int32} {x2 : Int32} {o : Int32} (hr : F_384 B x0 x1 x2 = some o) : RnW scr 2 384 [.int x0, .int x1, .int x2] B (.inl (some (.int o))) B :=
  x_methW (M := am_M384) rfl (show 3 ≤ 3 by decide) (f_384 (Nat.le_refl _) hr rfl)
