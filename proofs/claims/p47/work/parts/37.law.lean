/-! ===== STAGE A: law (by wip/p47/genl.py) ===== -/
def J_389_0_j63 (L : Nat) (xs : Nat → Int32) (B : Wd) : Option (Int32 × Wd) :=
  some (0, B)
set_option maxRecDepth 200000 in
theorem j_389_0_j63 {d : Nat} (hd : 69 ≤ d) {L : Nat} {xs : Nat → Int32} {res : ARe} {B : Wd} {o : Int32 × Wd} (hr : J_389_0_j63 L xs B = some o) (kr : res = (.inl (some (.int o.1)), mk o.2, Wd.kc o.2, Wd.kn o.2)) : Ex d am_M389 (some (L, xs)) (63, [none, none, none, none, none, none, none, none, none, none, none], [], (mk B), B.kc, B.kn) res := by
  delta J_389_0_j63 at hr
  refine x_b 1 (S2 := (64, [none, none, none, none, none, none, none, none, none, none, none], [.int 0], (mk B), B.kc, B.kn)) rfl ?_
  cases hr
  rw [kr]
  exact x_ret rfl rfl (am_ret_z (by decide))
def J_389_0_j108 (L : Nat) (xs : Nat → Int32) (B : Wd) : Option (Int32 × Wd) :=
  some (0, B)
set_option maxRecDepth 200000 in
theorem j_389_0_j108 {d : Nat} (hd : 69 ≤ d) {L : Nat} {xs : Nat → Int32} {res : ARe} {B : Wd} {o : Int32 × Wd} (hr : J_389_0_j108 L xs B = some o) (kr : res = (.inl (some (.int o.1)), mk o.2, Wd.kc o.2, Wd.kn o.2)) : Ex d am_M389 (some (L, xs)) (108, [none, none, none, none, none, none, none, none, none, none, none], [], (mk B), B.kc, B.kn) res := by
  delta J_389_0_j108 at hr
  refine x_b 1 (S2 := (109, [none, none, none, none, none, none, none, none, none, none, none], [.int 0], (mk B), B.kc, B.kn)) rfl ?_
  cases hr
  rw [kr]
  exact x_ret rfl rfl (am_ret_z (by decide))
abbrev P_389_133 (L : Nat) (xs : Nat → Int32) (x3 : Nat) (x5 : Nat) (s : Nat × Option Nat × Int32 × Wd) : ASt := (133, [some (.ref am_SB), some (.ref 0), some (.ref s.1), some (.ref x3), some (va_rf s.2.1), some (.ref x5), some (.int s.2.2.1), none, none, none, none], [], (mk s.2.2.2), Wd.kc s.2.2.2, Wd.kn s.2.2.2)
abbrev PX_389_133 (L : Nat) (xs : Nat → Int32) (x3 : Nat) (x5 : Nat) (s : Nat × Wd) : ASt := (447, [none, some (.ref 0), some (.ref s.1), none, none, none, none, none, none, none, none], [], (mk s.2), Wd.kc s.2, Wd.kn s.2)
def J_389_133_j439 (L : Nat) (xs : Nat → Int32) (B : Wd) (x3 : Nat) (x5 : Nat) : Option ((Nat × Option Nat × Int32 × Wd) ⊕ (Nat × Wd) ⊕ (Int32 × Wd)) :=
  some (.inr (.inr (0, B)))
set_option maxRecDepth 200000 in
theorem j_389_133_j439 {d : Nat} (hd : 69 ≤ d) {L : Nat} {xs : Nat → Int32} {res : ARe} {B : Wd} {x3 : Nat} {x5 : Nat} {o : (Nat × Option Nat × Int32 × Wd) ⊕ (Nat × Wd) ⊕ (Int32 × Wd)} (hr : J_389_133_j439 L xs B x3 x5 = some o) (ka : ∀ s, o = .inl s → Ex d am_M389 (some (L, xs)) (P_389_133 L xs x3 x5 s) res) (kx : ∀ s, o = .inr (.inl s) → Ex d am_M389 (some (L, xs)) (PX_389_133 L xs x3 x5 s) res) (kr : ∀ r, o = .inr (.inr r) → res = (.inl (some (.int r.1)), mk r.2, Wd.kc r.2, Wd.kn r.2)) : Ex d am_M389 (some (L, xs)) (439, [none, none, none, none, none, none, none, none, none, none, none], [], (mk B), B.kc, B.kn) res := by
  delta J_389_133_j439 at hr
  refine x_b 1 (S2 := (440, [none, none, none, none, none, none, none, none, none, none, none], [.int 0], (mk B), B.kc, B.kn)) rfl ?_
  rw [kr _ (Option.some.inj hr).symm]
  exact x_ret rfl rfl (am_ret_z (by decide))
def J_389_133_j408 (L : Nat) (xs : Nat → Int32) (B : Wd) (x2 : Nat) (x3 : Nat) (x4 : Option Nat) (x5 : Nat) (x6 : Int32) : Option ((Nat × Option Nat × Int32 × Wd) ⊕ (Nat × Wd) ⊕ (Int32 × Wd)) :=
  (B.rc x2 7).bind fun _ =>
  (F_317 B x2).bind fun (v98, B99) =>
  if v98 = 0 then
    J_389_133_j439 L xs B99 x3 x5
  else
    (F_94 B99).bind fun v102 =>
    (B99.rc x3 10).bind fun _ =>
    (F_349 B99 x3).bind fun v105 =>
    if ¬ v102 = v105 then
      J_389_133_j439 L xs B99 x3 x5
    else
      (F_97 B99).bind fun v108 =>
      (B99.gI x5 6 0).bind fun v109 =>
      if v108 = v109 then
        some (.inl (x2, x4, (x6 + 1), B99))
      else
        J_389_133_j439 L xs B99 x3 x5
set_option maxRecDepth 200000 in
theorem j_389_133_j408 {d : Nat} (hd : 69 ≤ d) {L : Nat} {xs : Nat → Int32} {res : ARe} {B : Wd} {x2 : Nat} {x3 : Nat} {x4 : Option Nat} {x5 : Nat} {x6 : Int32} {o : (Nat × Option Nat × Int32 × Wd) ⊕ (Nat × Wd) ⊕ (Int32 × Wd)} (hr : J_389_133_j408 L xs B x2 x3 x4 x5 x6 = some o) (ka : ∀ s, o = .inl s → Ex d am_M389 (some (L, xs)) (P_389_133 L xs x3 x5 s) res) (kx : ∀ s, o = .inr (.inl s) → Ex d am_M389 (some (L, xs)) (PX_389_133 L xs x3 x5 s) res) (kr : ∀ r, o = .inr (.inr r) → res = (.inl (some (.int r.1)), mk r.2, Wd.kc r.2, Wd.kn r.2)) : Ex d am_M389 (some (L, xs)) (408, [some (.ref am_SB), some (.ref 0), some (.ref x2), some (.ref x3), some (va_rf x4), some (.ref x5), some (.int x6), none, none, none, none], [], (mk B), B.kc, B.kn) res := by
  delta J_389_133_j408 at hr
  refine x_b 2 (S2 := (410, [some (.ref am_SB), some (.ref 0), some (.ref x2), some (.ref x3), some (va_rf x4), some (.ref x5), some (.int x6), none, none, none, none], [.ref 0, .ref x2], (mk B), B.kc, B.kn)) rfl ?_
  obtain ⟨uh96, h96, hr⟩ := bd_some hr
  obtain ⟨⟨v98, B99⟩, h97, hr⟩ := bd_some hr
  refine x_cW (m_317 h97) rfl rfl rfl rfl (am_recv_c h96 (.inl rfl)) (by omega) ?_
  rcases ite_some hr with ⟨h100, hr⟩ | ⟨h100, hr⟩
  · refine x_zt rfl rfl (decide_eq_true h100) ?_
    refine x_fg (Lq.n (Lq.n (Lq.n (Lq.n (Lq.n (Lq.n (Lq.n (Lq.s (Lq.s (Lq.s (Lq.s Lq.nil))))))))))) ?_
    exact j_389_133_j439 hd hr ka kx kr
  · refine x_zf rfl rfl (decide_eq_false h100) ?_
    refine x_b 1 (S2 := (417, [some (.ref am_SB), some (.ref 0), some (.ref x2), some (.ref x3), some (va_rf x4), some (.ref x5), some (.int x6), none, none, none, none], [.ref 0], (mk B99), B99.kc, B99.kn)) rfl ?_
    obtain ⟨v102, h101, hr⟩ := bd_some hr
    refine x_cW (m_94 h101) rfl rfl rfl rfl (am_recv_v ((rg_pp (W := B99)).lt (i := 0) (show 0 < 1 by decide)) ((rg_pp (W := B99)).at (i := 0) rfl) rfl) (by omega) ?_
    refine x_b 1 (S2 := (421, [some (.ref am_SB), some (.ref 0), some (.ref x2), some (.ref x3), some (va_rf x4), some (.ref x5), some (.int x6), none, none, none, none], [.ref x3, .int v102], (mk B99), B99.kc, B99.kn)) rfl ?_
    obtain ⟨uh103, h103, hr⟩ := bd_some hr
    obtain ⟨v105, h104, hr⟩ := bd_some hr
    refine x_cW (m_349 h104) rfl rfl rfl rfl (am_recv_c h103 (.inl rfl)) (by omega) ?_
    rcases ite_some hr with ⟨h106, hr⟩ | ⟨h106, hr⟩
    · refine x_ct rfl rfl (decide_eq_true h106) ?_
      refine x_fg (Lq.n (Lq.n (Lq.n (Lq.n (Lq.n (Lq.n (Lq.n (Lq.s (Lq.s (Lq.s (Lq.s Lq.nil))))))))))) ?_
      exact j_389_133_j439 hd hr ka kx kr
    · refine x_cf rfl rfl (decide_eq_false h106) ?_
      refine x_b 1 (S2 := (428, [some (.ref am_SB), some (.ref 0), some (.ref x2), some (.ref x3), some (va_rf x4), some (.ref x5), some (.int x6), none, none, none, none], [.ref 0], (mk B99), B99.kc, B99.kn)) rfl ?_
      obtain ⟨v108, h107, hr⟩ := bd_some hr
      refine x_cW (m_97 h107) rfl rfl rfl rfl (am_recv_v ((rg_pp (W := B99)).lt (i := 0) (show 0 < 1 by decide)) ((rg_pp (W := B99)).at (i := 0) rfl) rfl) (by omega) ?_
      refine x_b 1 (S2 := (433, [some (.ref am_SB), some (.ref 0), some (.ref x2), some (.ref x3), some (va_rf x4), some (.ref x5), some (.int x6), none, none, none, none], [.ref x5, .int v108], (mk B99), B99.kc, B99.kn)) rfl ?_
      obtain ⟨v109, h110, hr⟩ := bd_some hr
      refine x_gI rfl rfl h110 ?_
      rcases ite_some hr with ⟨h111, hr⟩ | ⟨h111, hr⟩
      · refine x_ct rfl rfl (decide_eq_true h111) ?_
        refine x_b 2 (S2 := (133, [some (.ref am_SB), some (.ref 0), some (.ref x2), some (.ref x3), some (va_rf x4), some (.ref x5), some (.int (x6 + 1)), none, none, none, none], [], (mk B99), B99.kc, B99.kn)) rfl ?_
        refine x_fg (Lq.s (Lq.s (Lq.s (Lq.s (Lq.s (Lq.s (Lq.s (Lq.s (Lq.s (Lq.s (Lq.s Lq.nil))))))))))) ?_
        exact ka (x2, x4, (x6 + 1), B99) (Option.some.inj hr).symm
      · refine x_cf rfl rfl (decide_eq_false h111) ?_
        refine x_fg (Lq.n (Lq.n (Lq.n (Lq.n (Lq.n (Lq.n (Lq.n (Lq.s (Lq.s (Lq.s (Lq.s Lq.nil))))))))))) ?_
        exact j_389_133_j439 hd hr ka kx kr
def J_389_133_j401 (L : Nat) (xs : Nat → Int32) (B : Wd) (x2 : Nat) (x3 : Nat) (x4 : Option Nat) (x5 : Nat) (x6 : Int32) (x8 : Nat) : Option ((Nat × Option Nat × Int32 × Wd) ⊕ (Nat × Wd) ⊕ (Int32 × Wd)) :=
  (B.rc x3 10).bind fun _ =>
  (F_354 B x3 x8).bind fun (v94, B95) =>
  J_389_133_j408 L xs B95 x2 x3 x4 x5 x6
set_option maxRecDepth 200000 in
theorem j_389_133_j401 {d : Nat} (hd : 69 ≤ d) {L : Nat} {xs : Nat → Int32} {res : ARe} {B : Wd} {x2 : Nat} {x3 : Nat} {x4 : Option Nat} {x5 : Nat} {x6 : Int32} {x8 : Nat} {o : (Nat × Option Nat × Int32 × Wd) ⊕ (Nat × Wd) ⊕ (Int32 × Wd)} (hr : J_389_133_j401 L xs B x2 x3 x4 x5 x6 x8 = some o) (ka : ∀ s, o = .inl s → Ex d am_M389 (some (L, xs)) (P_389_133 L xs x3 x5 s) res) (kx : ∀ s, o = .inr (.inl s) → Ex d am_M389 (some (L, xs)) (PX_389_133 L xs x3 x5 s) res) (kr : ∀ r, o = .inr (.inr r) → res = (.inl (some (.int r.1)), mk r.2, Wd.kc r.2, Wd.kn r.2)) : Ex d am_M389 (some (L, xs)) (401, [some (.ref am_SB), some (.ref 0), some (.ref x2), some (.ref x3), some (va_rf x4), some (.ref x5), some (.int x6), none, some (.ref x8), none, none], [], (mk B), B.kc, B.kn) res := by
  delta J_389_133_j401 at hr
  refine x_b 2 (S2 := (404, [some (.ref am_SB), some (.ref 0), some (.ref x2), some (.ref x3), some (va_rf x4), some (.ref x5), some (.int x6), none, some (.ref x8), none, none], [.ref x8, .ref x3], (mk B), B.kc, B.kn)) rfl ?_
  obtain ⟨uh92, h92, hr⟩ := bd_some hr
  obtain ⟨⟨v94, B95⟩, h93, hr⟩ := bd_some hr
  refine x_cW (m_354 h93) rfl rfl rfl rfl (am_recv_c h92 (.inl rfl)) (by omega) ?_
  refine x_b 1 (S2 := (408, [some (.ref am_SB), some (.ref 0), some (.ref x2), some (.ref x3), some (va_rf x4), some (.ref x5), some (.int x6), none, some (.ref x8), none, none], [], (mk B95), B95.kc, B95.kn)) rfl ?_
  refine x_fg (Lq.s (Lq.s (Lq.s (Lq.s (Lq.s (Lq.s (Lq.s (Lq.s (Lq.n (Lq.s (Lq.s Lq.nil))))))))))) ?_
  exact j_389_133_j408 hd hr ka kx kr
def J_389_133_j288 (L : Nat) (xs : Nat → Int32) (B : Wd) (x2 : Nat) (x3 : Nat) (x4 : Option Nat) (x5 : Nat) (x6 : Int32) (t0 : Int32) (t1 : Int32) : Option ((Nat × Option Nat × Int32 × Wd) ⊕ (Nat × Wd) ⊕ (Int32 × Wd)) :=
  if t1 = t0 then
    oq x4 (
      J_389_133_j408 L xs B x2 x3 none x5 x6) fun a125 =>
    (if ¬ a125 = am_SB + 1 then some () else none).bind fun _ =>
    (B.nO 7).bind fun (a128, B129) =>
    (if a128 < am_SB then some () else none).bind fun _ =>
    (F_303 B129 a128 a125).bind fun B134 =>
    (B134.rc x3 10).bind fun _ =>
    (F_357 B134 x3).bind fun B137 =>
    J_389_133_j408 L xs B137 a128 x3 (some a125) x5 x6
  else
    some (.inr (.inr (0, B)))
set_option maxRecDepth 200000 in
theorem j_389_133_j288 {d : Nat} (hd : 69 ≤ d) {L : Nat} {xs : Nat → Int32} {res : ARe} {B : Wd} {x2 : Nat} {x3 : Nat} {x4 : Option Nat} {x5 : Nat} {x6 : Int32} {t0 : Int32} {t1 : Int32} {o : (Nat × Option Nat × Int32 × Wd) ⊕ (Nat × Wd) ⊕ (Int32 × Wd)} (hr : J_389_133_j288 L xs B x2 x3 x4 x5 x6 t0 t1 = some o) (ka : ∀ s, o = .inl s → Ex d am_M389 (some (L, xs)) (P_389_133 L xs x3 x5 s) res) (kx : ∀ s, o = .inr (.inl s) → Ex d am_M389 (some (L, xs)) (PX_389_133 L xs x3 x5 s) res) (kr : ∀ r, o = .inr (.inr r) → res = (.inl (some (.int r.1)), mk r.2, Wd.kc r.2, Wd.kn r.2)) : Ex d am_M389 (some (L, xs)) (288, [some (.ref am_SB), some (.ref 0), some (.ref x2), some (.ref x3), some (va_rf x4), some (.ref x5), some (.int x6), none, none, none, none], [.int t0, .int t1], (mk B), B.kc, B.kn) res := by
  delta J_389_133_j288 at hr
  rcases ite_some hr with ⟨h123, hr⟩ | ⟨h123, hr⟩
  · refine x_ct rfl rfl (decide_eq_true h123) ?_
    rcases oq_some hr with ⟨h124, hr⟩ | ⟨a125, h124, hr⟩
    · subst h124
      refine x_b 1 (S2 := (295, [some (.ref am_SB), some (.ref 0), some (.ref x2), some (.ref x3), some (.null), some (.ref x5), some (.int x6), none, none, none, none], [.null], (mk B), B.kc, B.kn)) rfl ?_
      refine x_nnuN rfl rfl ?_
      refine x_fg (Lq.s (Lq.s (Lq.s (Lq.s (Lq.s (Lq.s (Lq.s (Lq.s (Lq.s (Lq.s (Lq.s Lq.nil))))))))))) ?_
      exact j_389_133_j408 hd hr ka kx kr
    · subst h124
      refine x_b 1 (S2 := (295, [some (.ref am_SB), some (.ref 0), some (.ref x2), some (.ref x3), some (.ref a125), some (.ref x5), some (.int x6), none, none, none, none], [.ref a125], (mk B), B.kc, B.kn)) rfl ?_
      obtain ⟨uh127, h127, hr⟩ := bd_some hr
      obtain ⟨h126, -⟩ := itn_some h127
      refine x_nnux rfl rfl h126 ?_
      obtain ⟨⟨a128, B129⟩, h130, hr⟩ := bd_some hr
      refine x_nO rfl rfl h130 ?_
      refine x_b 2 (S2 := (304, [some (.ref am_SB), some (.ref 0), some (.ref x2), some (.ref x3), some (.ref a125), some (.ref x5), some (.int x6), none, none, none, none], [.ref a125, .ref a128, .ref a128], (mk B129), B129.kc, B129.kn)) rfl ?_
      obtain ⟨uh132, h132, hr⟩ := bd_some hr
      obtain ⟨h131, -⟩ := itn_some h132
      obtain ⟨B134, h133, hr⟩ := bd_some hr
      refine x_cW (m_303 h133) rfl rfl rfl rfl (am_recv_p h131 (by decide)) (by omega) ?_
      refine x_b 2 (S2 := (309, [some (.ref am_SB), some (.ref 0), some (.ref a128), some (.ref x3), some (.ref a125), some (.ref x5), some (.int x6), none, none, none, none], [.ref x3], (mk B134), B134.kc, B134.kn)) rfl ?_
      obtain ⟨uh135, h135, hr⟩ := bd_some hr
      obtain ⟨B137, h136, hr⟩ := bd_some hr
      refine x_cW (m_357 h136) rfl rfl rfl rfl (am_recv_c h135 (.inl rfl)) (by omega) ?_
      refine x_b 1 (S2 := (408, [some (.ref am_SB), some (.ref 0), some (.ref a128), some (.ref x3), some (.ref a125), some (.ref x5), some (.int x6), none, none, none, none], [], (mk B137), B137.kc, B137.kn)) rfl ?_
      refine x_fg (Lq.s (Lq.s (Lq.s (Lq.s (Lq.s (Lq.s (Lq.s (Lq.s (Lq.s (Lq.s (Lq.s Lq.nil))))))))))) ?_
      exact j_389_133_j408 hd hr ka kx kr
  · refine x_cf rfl rfl (decide_eq_false h123) ?_
    refine x_b 1 (S2 := (292, [some (.ref am_SB), some (.ref 0), some (.ref x2), some (.ref x3), some (va_rf x4), some (.ref x5), some (.int x6), none, none, none, none], [.int 0], (mk B), B.kc, B.kn)) rfl ?_
    rw [kr _ (Option.some.inj hr).symm]
    exact x_ret rfl rfl (am_ret_z (by decide))
def J_389_133_j203 (L : Nat) (xs : Nat → Int32) (B : Wd) (x2 : Nat) (x3 : Nat) (x4 : Option Nat) (x5 : Nat) (x6 : Int32) (t0 : Int32) (t1 : Int32) : Option ((Nat × Option Nat × Int32 × Wd) ⊕ (Nat × Wd) ⊕ (Int32 × Wd)) :=
  if t1 = t0 then
    (B.rc x3 10).bind fun _ =>
    (F_350 B x3).bind fun v168 =>
    if ¬ v168 = 0 then
      J_389_133_j408 L xs B x2 x3 x4 x5 x6
    else
      (B.rc x3 10).bind fun _ =>
      (F_349 B x3).bind fun v172 =>
      (B.rc x3 10).bind fun _ =>
      (F_355 B x3 (v172 - 1)).bind fun (a175, B176) =>
      (B176.rc a175 7).bind fun _ =>
      J_389_133_j408 L xs B176 a175 x3 x4 x5 x6
  else
    some (.inr (.inr (0, B)))
set_option maxRecDepth 200000 in
theorem j_389_133_j203 {d : Nat} (hd : 69 ≤ d) {L : Nat} {xs : Nat → Int32} {res : ARe} {B : Wd} {x2 : Nat} {x3 : Nat} {x4 : Option Nat} {x5 : Nat} {x6 : Int32} {t0 : Int32} {t1 : Int32} {o : (Nat × Option Nat × Int32 × Wd) ⊕ (Nat × Wd) ⊕ (Int32 × Wd)} (hr : J_389_133_j203 L xs B x2 x3 x4 x5 x6 t0 t1 = some o) (ka : ∀ s, o = .inl s → Ex d am_M389 (some (L, xs)) (P_389_133 L xs x3 x5 s) res) (kx : ∀ s, o = .inr (.inl s) → Ex d am_M389 (some (L, xs)) (PX_389_133 L xs x3 x5 s) res) (kr : ∀ r, o = .inr (.inr r) → res = (.inl (some (.int r.1)), mk r.2, Wd.kc r.2, Wd.kn r.2)) : Ex d am_M389 (some (L, xs)) (203, [some (.ref am_SB), some (.ref 0), some (.ref x2), some (.ref x3), some (va_rf x4), some (.ref x5), some (.int x6), none, none, none, none], [.int t0, .int t1], (mk B), B.kc, B.kn) res := by
  delta J_389_133_j203 at hr
  rcases ite_some hr with ⟨h165, hr⟩ | ⟨h165, hr⟩
  · refine x_ct rfl rfl (decide_eq_true h165) ?_
    refine x_b 1 (S2 := (209, [some (.ref am_SB), some (.ref 0), some (.ref x2), some (.ref x3), some (va_rf x4), some (.ref x5), some (.int x6), none, none, none, none], [.ref x3], (mk B), B.kc, B.kn)) rfl ?_
    obtain ⟨uh166, h166, hr⟩ := bd_some hr
    obtain ⟨v168, h167, hr⟩ := bd_some hr
    refine x_cW (m_350 h167) rfl rfl rfl rfl (am_recv_c h166 (.inl rfl)) (by omega) ?_
    rcases ite_some hr with ⟨h169, hr⟩ | ⟨h169, hr⟩
    · refine x_zt rfl rfl (decide_eq_true h169) ?_
      refine x_fg (Lq.s (Lq.s (Lq.s (Lq.s (Lq.s (Lq.s (Lq.s (Lq.s (Lq.s (Lq.s (Lq.s Lq.nil))))))))))) ?_
      exact j_389_133_j408 hd hr ka kx kr
    · refine x_zf rfl rfl (decide_eq_false h169) ?_
      refine x_b 2 (S2 := (217, [some (.ref am_SB), some (.ref 0), some (.ref x2), some (.ref x3), some (va_rf x4), some (.ref x5), some (.int x6), none, none, none, none], [.ref x3, .ref x3], (mk B), B.kc, B.kn)) rfl ?_
      obtain ⟨uh170, h170, hr⟩ := bd_some hr
      obtain ⟨v172, h171, hr⟩ := bd_some hr
      refine x_cW (m_349 h171) rfl rfl rfl rfl (am_recv_c h170 (.inl rfl)) (by omega) ?_
      refine x_b 2 (S2 := (222, [some (.ref am_SB), some (.ref 0), some (.ref x2), some (.ref x3), some (va_rf x4), some (.ref x5), some (.int x6), none, none, none, none], [.int (v172 - 1), .ref x3], (mk B), B.kc, B.kn)) rfl ?_
      obtain ⟨uh173, h173, hr⟩ := bd_some hr
      obtain ⟨⟨a175, B176⟩, h174, hr⟩ := bd_some hr
      refine x_cW (m_355 h174) rfl rfl rfl rfl (am_recv_c h173 (.inl rfl)) (by omega) ?_
      obtain ⟨uh177, h177, hr⟩ := bd_some hr
      refine x_ckO rfl rfl h177 ?_
      refine x_b 2 (S2 := (408, [some (.ref am_SB), some (.ref 0), some (.ref a175), some (.ref x3), some (va_rf x4), some (.ref x5), some (.int x6), none, none, none, none], [], (mk B176), B176.kc, B176.kn)) rfl ?_
      refine x_fg (Lq.s (Lq.s (Lq.s (Lq.s (Lq.s (Lq.s (Lq.s (Lq.s (Lq.s (Lq.s (Lq.s Lq.nil))))))))))) ?_
      exact j_389_133_j408 hd hr ka kx kr
  · refine x_cf rfl rfl (decide_eq_false h165) ?_
    refine x_b 1 (S2 := (207, [some (.ref am_SB), some (.ref 0), some (.ref x2), some (.ref x3), some (va_rf x4), some (.ref x5), some (.int x6), none, none, none, none], [.int 0], (mk B), B.kc, B.kn)) rfl ?_
    rw [kr _ (Option.some.inj hr).symm]
    exact x_ret rfl rfl (am_ret_z (by decide))
def G_389_133 (L : Nat) (xs : Nat → Int32) (x3 : Nat) (x5 : Nat) (s : Nat × Option Nat × Int32 × Wd) : Option ((Nat × Option Nat × Int32 × Wd) ⊕ (Nat × Wd) ⊕ (Int32 × Wd)) := 
  match s with
  | (x2, x4, x6, B) =>
    if 60 ≤ x6 then
      some (.inr (.inl (x2, B)))
    else
      (F_366 L xs B (3 + (x6 - x6 / 40 * 40)) (1000000000 : Int32)).bind fun v69 =>
      if ¬ ((v69 + (983 * x6)) - (v69 + (983 * x6)) / 13 * 13) = 0 then
        (B.nO 7).bind fun (a71, B72) =>
        (if a71 < am_SB then some () else none).bind fun _ =>
        (F_303 B72 a71 x2).bind fun B77 =>
        (F_385 B77 x2 x5 (((v69 + (983 * x6)) / 13) - ((v69 + (983 * x6)) / 13) / 16 * 16) ((v69 + (983 * x6)) / 208)).bind fun (v79, B80) =>
        (F_386 B80 a71 (((v69 + (983 * x6)) / 13) - ((v69 + (983 * x6)) / 13) / 16 * 16) ((v69 + (983 * x6)) / 208)).bind fun (v82, B83) =>
        if v82 = v79 then
          (F_381 B83 v79).bind fun v86 =>
          if v86 = 0 then
            (B83.rc x3 10).bind fun _ =>
            (F_349 B83 x3).bind fun v90 =>
            if ¬ v90 = 10 then
              J_389_133_j401 L xs B83 x2 x3 x4 x5 x6 a71
            else
              (B83.rc x3 10).bind fun _ =>
              (F_355 B83 x3 0).bind fun (a114, B115) =>
              J_389_133_j401 L xs B115 x2 x3 x4 x5 x6 a71
          else
            J_389_133_j408 L xs B83 a71 x3 x4 x5 x6
        else
          some (.inr (.inr (0, B83)))
      else
        if 2 ≤ (((v69 + (983 * x6)) / 13) - ((v69 + (983 * x6)) / 13) / 4 * 4) then
          if ¬ (((v69 + (983 * x6)) / 13) - ((v69 + (983 * x6)) / 13) / 4 * 4) = 2 then
            (F_380 B).bind fun (v119, B120) =>
            oq x4 (
              J_389_133_j288 L xs B120 x2 x3 none x5 x6 (3294967293 : Int32) v119) fun a122 =>
            (if ¬ a122 = am_SB + 1 then some () else none).bind fun _ =>
            (B120.gI a122 7 0).bind fun v140 =>
            J_389_133_j288 L xs B120 x2 x3 (some a122) x5 x6 v140 v119
          else
            (F_95 B).bind fun (v143, B144) =>
            (B144.gI x2 7 0).bind fun v145 =>
            if v143 = v145 then
              (B144.nO 7).bind fun (a148, B149) =>
              (if a148 < am_SB then some () else none).bind fun _ =>
              (F_303 B149 a148 x2).bind fun B154 =>
              J_389_133_j408 L xs B154 x2 x3 (some a148) x5 x6
            else
              some (.inr (.inr (0, B144)))
        else
          (F_379 B).bind fun (v156, B157) =>
          (B157.rc x3 10).bind fun _ =>
          (F_350 B157 x3).bind fun v160 =>
          if v160 = 0 then
            (B157.rc x3 10).bind fun _ =>
            (F_349 B157 x3).bind fun v164 =>
            J_389_133_j203 L xs B157 x2 x3 x4 x5 x6 (v164 - 1) v156
          else
            J_389_133_j203 L xs B157 x2 x3 x4 x5 x6 (3294967293 : Int32) v156
set_option maxRecDepth 200000 in
theorem g_389_133 {d : Nat} (hd : 69 ≤ d) {L : Nat} {xs : Nat → Int32} {res : ARe} {x3 : Nat} {x5 : Nat} {s : Nat × Option Nat × Int32 × Wd} {o : (Nat × Option Nat × Int32 × Wd) ⊕ (Nat × Wd) ⊕ (Int32 × Wd)} (hr : G_389_133 L xs x3 x5 s = some o) (ka : ∀ s, o = .inl s → Ex d am_M389 (some (L, xs)) (P_389_133 L xs x3 x5 s) res) (kx : ∀ s, o = .inr (.inl s) → Ex d am_M389 (some (L, xs)) (PX_389_133 L xs x3 x5 s) res) (kr : ∀ r, o = .inr (.inr r) → res = (.inl (some (.int r.1)), mk r.2, Wd.kc r.2, Wd.kn r.2)) : Ex d am_M389 (some (L, xs)) (P_389_133 L xs x3 x5 s) res := by
  obtain ⟨x2, x4, x6, B⟩ := s
  delta G_389_133 at hr
  show Ex d am_M389 (some (L, xs)) (133, [some (.ref am_SB), some (.ref 0), some (.ref x2), some (.ref x3), some (va_rf x4), some (.ref x5), some (.int x6), none, none, none, none], [], (mk B), B.kc, B.kn) res
  refine x_b 2 (S2 := (137, [some (.ref am_SB), some (.ref 0), some (.ref x2), some (.ref x3), some (va_rf x4), some (.ref x5), some (.int x6), none, none, none, none], [.int 60, .int x6], (mk B), B.kc, B.kn)) rfl ?_
  rcases ite_some hr with ⟨h67, hr⟩ | ⟨h67, hr⟩
  · refine x_ct rfl rfl (decide_eq_true h67) ?_
    refine x_fg (Lq.n (Lq.s (Lq.s (Lq.n (Lq.n (Lq.n (Lq.n (Lq.s (Lq.s (Lq.s (Lq.s Lq.nil))))))))))) ?_
    exact kx (x2, B) (Option.some.inj hr).symm
  · refine x_cf rfl rfl (decide_eq_false h67) ?_
    refine x_b 4 (S2 := (146, [some (.ref am_SB), some (.ref 0), some (.ref x2), some (.ref x3), some (va_rf x4), some (.ref x5), some (.int x6), none, none, none, none], [.int 40, .int x6, .int 3, .ref am_SB], (mk B), B.kc, B.kn)) rfl ?_
    refine x_rem rfl rfl (by decide) ?_
    refine x_b 2 (S2 := (150, [some (.ref am_SB), some (.ref 0), some (.ref x2), some (.ref x3), some (va_rf x4), some (.ref x5), some (.int x6), none, none, none, none], [.int (1000000000 : Int32), .int (3 + (x6 - x6 / 40 * 40)), .ref am_SB], (mk B), B.kc, B.kn)) rfl ?_
    obtain ⟨v69, h68, hr⟩ := bd_some hr
    refine x_cW (m_366 h68) rfl rfl rfl rfl rfl (by omega) ?_
    refine x_b 7 (S2 := (166, [some (.ref am_SB), some (.ref 0), some (.ref x2), some (.ref x3), some (va_rf x4), some (.ref x5), some (.int x6), some (.int (v69 + (983 * x6))), none, none, none], [.int 13, .int (v69 + (983 * x6))], (mk B), B.kc, B.kn)) rfl ?_
    refine x_rem rfl rfl (by decide) ?_
    rcases ite_some hr with ⟨h70, hr⟩ | ⟨h70, hr⟩
    · refine x_zt rfl rfl (decide_eq_true h70) ?_
      obtain ⟨⟨a71, B72⟩, h73, hr⟩ := bd_some hr
      refine x_nO rfl rfl h73 ?_
      refine x_b 2 (S2 := (320, [some (.ref am_SB), some (.ref 0), some (.ref x2), some (.ref x3), some (va_rf x4), some (.ref x5), some (.int x6), some (.int (v69 + (983 * x6))), none, none, none], [.ref x2, .ref a71, .ref a71], (mk B72), B72.kc, B72.kn)) rfl ?_
      obtain ⟨uh75, h75, hr⟩ := bd_some hr
      obtain ⟨h74, -⟩ := itn_some h75
      obtain ⟨B77, h76, hr⟩ := bd_some hr
      refine x_cW (m_303 h76) rfl rfl rfl rfl (am_recv_p h74 (by decide)) (by omega) ?_
      refine x_b 3 (S2 := (329, [some (.ref am_SB), some (.ref 0), some (.ref x2), some (.ref x3), some (va_rf x4), some (.ref x5), some (.int x6), some (.int (v69 + (983 * x6))), some (.ref a71), none, none], [.int 13, .int (v69 + (983 * x6))], (mk B77), B77.kc, B77.kn)) rfl ?_
      refine x_div rfl rfl (by decide) ?_
      refine x_b 1 (S2 := (332, [some (.ref am_SB), some (.ref 0), some (.ref x2), some (.ref x3), some (va_rf x4), some (.ref x5), some (.int x6), some (.int (v69 + (983 * x6))), some (.ref a71), none, none], [.int 16, .int ((v69 + (983 * x6)) / 13)], (mk B77), B77.kc, B77.kn)) rfl ?_
      refine x_rem rfl rfl (by decide) ?_
      refine x_b 6 (S2 := (345, [some (.ref am_SB), some (.ref 0), some (.ref x2), some (.ref x3), some (va_rf x4), some (.ref x5), some (.int x6), some (.int (v69 + (983 * x6))), some (.ref a71), some (.int (((v69 + (983 * x6)) / 13) - ((v69 + (983 * x6)) / 13) / 16 * 16)), none], [.int 208, .int (v69 + (983 * x6)), .int (((v69 + (983 * x6)) / 13) - ((v69 + (983 * x6)) / 13) / 16 * 16), .ref x5, .ref x2], (mk B77), B77.kc, B77.kn)) rfl ?_
      refine x_div rfl rfl (by decide) ?_
      obtain ⟨⟨v79, B80⟩, h78, hr⟩ := bd_some hr
      refine x_cW (m_385 h78) rfl rfl rfl rfl rfl (by omega) ?_
      refine x_b 6 (S2 := (361, [some (.ref am_SB), some (.ref 0), some (.ref x2), some (.ref x3), some (va_rf x4), some (.ref x5), some (.int x6), some (.int (v69 + (983 * x6))), some (.ref a71), some (.int (((v69 + (983 * x6)) / 13) - ((v69 + (983 * x6)) / 13) / 16 * 16)), some (.int v79)], [.int 208, .int (v69 + (983 * x6)), .int (((v69 + (983 * x6)) / 13) - ((v69 + (983 * x6)) / 13) / 16 * 16), .ref a71, .ref 0], (mk B80), B80.kc, B80.kn)) rfl ?_
      refine x_div rfl rfl (by decide) ?_
      obtain ⟨⟨v82, B83⟩, h81, hr⟩ := bd_some hr
      refine x_cW (m_386 h81) rfl rfl rfl rfl rfl (by omega) ?_
      refine x_b 1 (S2 := (367, [some (.ref am_SB), some (.ref 0), some (.ref x2), some (.ref x3), some (va_rf x4), some (.ref x5), some (.int x6), some (.int (v69 + (983 * x6))), some (.ref a71), some (.int (((v69 + (983 * x6)) / 13) - ((v69 + (983 * x6)) / 13) / 16 * 16)), some (.int v79)], [.int v79, .int v82], (mk B83), B83.kc, B83.kn)) rfl ?_
      rcases ite_some hr with ⟨h84, hr⟩ | ⟨h84, hr⟩
      · refine x_ct rfl rfl (decide_eq_true h84) ?_
        refine x_b 1 (S2 := (374, [some (.ref am_SB), some (.ref 0), some (.ref x2), some (.ref x3), some (va_rf x4), some (.ref x5), some (.int x6), some (.int (v69 + (983 * x6))), some (.ref a71), some (.int (((v69 + (983 * x6)) / 13) - ((v69 + (983 * x6)) / 13) / 16 * 16)), some (.int v79)], [.int v79], (mk B83), B83.kc, B83.kn)) rfl ?_
        obtain ⟨v86, h85, hr⟩ := bd_some hr
        refine x_cW (m_381 h85) rfl rfl rfl rfl rfl (by omega) ?_
        rcases ite_some hr with ⟨h87, hr⟩ | ⟨h87, hr⟩
        · refine x_zt rfl rfl (decide_eq_true h87) ?_
          refine x_b 1 (S2 := (387, [some (.ref am_SB), some (.ref 0), some (.ref x2), some (.ref x3), some (va_rf x4), some (.ref x5), some (.int x6), some (.int (v69 + (983 * x6))), some (.ref a71), some (.int (((v69 + (983 * x6)) / 13) - ((v69 + (983 * x6)) / 13) / 16 * 16)), some (.int v79)], [.ref x3], (mk B83), B83.kc, B83.kn)) rfl ?_
          obtain ⟨uh88, h88, hr⟩ := bd_some hr
          obtain ⟨v90, h89, hr⟩ := bd_some hr
          refine x_cW (m_349 h89) rfl rfl rfl rfl (am_recv_c h88 (.inl rfl)) (by omega) ?_
          refine x_b 1 (S2 := (392, [some (.ref am_SB), some (.ref 0), some (.ref x2), some (.ref x3), some (va_rf x4), some (.ref x5), some (.int x6), some (.int (v69 + (983 * x6))), some (.ref a71), some (.int (((v69 + (983 * x6)) / 13) - ((v69 + (983 * x6)) / 13) / 16 * 16)), some (.int v79)], [.int 10, .int v90], (mk B83), B83.kc, B83.kn)) rfl ?_
          rcases ite_some hr with ⟨h91, hr⟩ | ⟨h91, hr⟩
          · refine x_ct rfl rfl (decide_eq_true h91) ?_
            refine x_fg (Lq.s (Lq.s (Lq.s (Lq.s (Lq.s (Lq.s (Lq.s (Lq.n (Lq.s (Lq.n (Lq.n Lq.nil))))))))))) ?_
            exact j_389_133_j401 hd hr ka kx kr
          · refine x_cf rfl rfl (decide_eq_false h91) ?_
            refine x_b 2 (S2 := (397, [some (.ref am_SB), some (.ref 0), some (.ref x2), some (.ref x3), some (va_rf x4), some (.ref x5), some (.int x6), some (.int (v69 + (983 * x6))), some (.ref a71), some (.int (((v69 + (983 * x6)) / 13) - ((v69 + (983 * x6)) / 13) / 16 * 16)), some (.int v79)], [.int 0, .ref x3], (mk B83), B83.kc, B83.kn)) rfl ?_
            obtain ⟨uh112, h112, hr⟩ := bd_some hr
            obtain ⟨⟨a114, B115⟩, h113, hr⟩ := bd_some hr
            refine x_cW (m_355 h113) rfl rfl rfl rfl (am_recv_c h112 (.inl rfl)) (by omega) ?_
            refine x_b 1 (S2 := (401, [some (.ref am_SB), some (.ref 0), some (.ref x2), some (.ref x3), some (va_rf x4), some (.ref x5), some (.int x6), some (.int (v69 + (983 * x6))), some (.ref a71), some (.int (((v69 + (983 * x6)) / 13) - ((v69 + (983 * x6)) / 13) / 16 * 16)), some (.int v79)], [], (mk B115), B115.kc, B115.kn)) rfl ?_
            refine x_fg (Lq.s (Lq.s (Lq.s (Lq.s (Lq.s (Lq.s (Lq.s (Lq.n (Lq.s (Lq.n (Lq.n Lq.nil))))))))))) ?_
            exact j_389_133_j401 hd hr ka kx kr
        · refine x_zf rfl rfl (decide_eq_false h87) ?_
          refine x_b 3 (S2 := (408, [some (.ref am_SB), some (.ref 0), some (.ref a71), some (.ref x3), some (va_rf x4), some (.ref x5), some (.int x6), some (.int (v69 + (983 * x6))), some (.ref a71), some (.int (((v69 + (983 * x6)) / 13) - ((v69 + (983 * x6)) / 13) / 16 * 16)), some (.int v79)], [], (mk B83), B83.kc, B83.kn)) rfl ?_
          refine x_fg (Lq.s (Lq.s (Lq.s (Lq.s (Lq.s (Lq.s (Lq.s (Lq.n (Lq.n (Lq.n (Lq.n Lq.nil))))))))))) ?_
          exact j_389_133_j408 hd hr ka kx kr
      · refine x_cf rfl rfl (decide_eq_false h84) ?_
        refine x_b 1 (S2 := (371, [some (.ref am_SB), some (.ref 0), some (.ref x2), some (.ref x3), some (va_rf x4), some (.ref x5), some (.int x6), some (.int (v69 + (983 * x6))), some (.ref a71), some (.int (((v69 + (983 * x6)) / 13) - ((v69 + (983 * x6)) / 13) / 16 * 16)), some (.int v79)], [.int 0], (mk B83), B83.kc, B83.kn)) rfl ?_
        rw [kr _ (Option.some.inj hr).symm]
        exact x_ret rfl rfl (am_ret_z (by decide))
    · refine x_zf rfl rfl (decide_eq_false h70) ?_
      refine x_b 2 (S2 := (174, [some (.ref am_SB), some (.ref 0), some (.ref x2), some (.ref x3), some (va_rf x4), some (.ref x5), some (.int x6), some (.int (v69 + (983 * x6))), none, none, none], [.int 13, .int (v69 + (983 * x6))], (mk B), B.kc, B.kn)) rfl ?_
      refine x_div rfl rfl (by decide) ?_
      refine x_b 1 (S2 := (176, [some (.ref am_SB), some (.ref 0), some (.ref x2), some (.ref x3), some (va_rf x4), some (.ref x5), some (.int x6), some (.int (v69 + (983 * x6))), none, none, none], [.int 4, .int ((v69 + (983 * x6)) / 13)], (mk B), B.kc, B.kn)) rfl ?_
      refine x_rem rfl rfl (by decide) ?_
      refine x_b 1 (S2 := (178, [some (.ref am_SB), some (.ref 0), some (.ref x2), some (.ref x3), some (va_rf x4), some (.ref x5), some (.int x6), some (.int (v69 + (983 * x6))), none, none, none], [.int 2, .int (((v69 + (983 * x6)) / 13) - ((v69 + (983 * x6)) / 13) / 4 * 4)], (mk B), B.kc, B.kn)) rfl ?_
      rcases ite_some hr with ⟨h116, hr⟩ | ⟨h116, hr⟩
      · refine x_ct rfl rfl (decide_eq_true h116) ?_
        refine x_b 2 (S2 := (236, [some (.ref am_SB), some (.ref 0), some (.ref x2), some (.ref x3), some (va_rf x4), some (.ref x5), some (.int x6), some (.int (v69 + (983 * x6))), none, none, none], [.int 13, .int (v69 + (983 * x6))], (mk B), B.kc, B.kn)) rfl ?_
        refine x_div rfl rfl (by decide) ?_
        refine x_b 1 (S2 := (238, [some (.ref am_SB), some (.ref 0), some (.ref x2), some (.ref x3), some (va_rf x4), some (.ref x5), some (.int x6), some (.int (v69 + (983 * x6))), none, none, none], [.int 4, .int ((v69 + (983 * x6)) / 13)], (mk B), B.kc, B.kn)) rfl ?_
        refine x_rem rfl rfl (by decide) ?_
        refine x_b 1 (S2 := (240, [some (.ref am_SB), some (.ref 0), some (.ref x2), some (.ref x3), some (va_rf x4), some (.ref x5), some (.int x6), some (.int (v69 + (983 * x6))), none, none, none], [.int 2, .int (((v69 + (983 * x6)) / 13) - ((v69 + (983 * x6)) / 13) / 4 * 4)], (mk B), B.kc, B.kn)) rfl ?_
        rcases ite_some hr with ⟨h117, hr⟩ | ⟨h117, hr⟩
        · refine x_ct rfl rfl (decide_eq_true h117) ?_
          refine x_b 1 (S2 := (270, [some (.ref am_SB), some (.ref 0), some (.ref x2), some (.ref x3), some (va_rf x4), some (.ref x5), some (.int x6), some (.int (v69 + (983 * x6))), none, none, none], [.ref 0], (mk B), B.kc, B.kn)) rfl ?_
          obtain ⟨⟨v119, B120⟩, h118, hr⟩ := bd_some hr
          refine x_cW (m_380 h118) rfl rfl rfl rfl rfl (by omega) ?_
          rcases oq_some hr with ⟨h121, hr⟩ | ⟨a122, h121, hr⟩
          · subst h121
            refine x_b 1 (S2 := (275, [some (.ref am_SB), some (.ref 0), some (.ref x2), some (.ref x3), some (.null), some (.ref x5), some (.int x6), some (.int (v69 + (983 * x6))), none, none, none], [.null, .int v119], (mk B120), B120.kc, B120.kn)) rfl ?_
            refine x_nulN rfl rfl ?_
            refine x_b 2 (S2 := (288, [some (.ref am_SB), some (.ref 0), some (.ref x2), some (.ref x3), some (.null), some (.ref x5), some (.int x6), some (.int (v69 + (983 * x6))), none, none, none], [.int (3294967293 : Int32), .int v119], (mk B120), B120.kc, B120.kn)) rfl ?_
            refine x_fg (Lq.s (Lq.s (Lq.s (Lq.s (Lq.s (Lq.s (Lq.s (Lq.n (Lq.s (Lq.s (Lq.s Lq.nil))))))))))) ?_
            exact j_389_133_j288 hd hr ka kx kr
          · subst h121
            refine x_b 1 (S2 := (275, [some (.ref am_SB), some (.ref 0), some (.ref x2), some (.ref x3), some (.ref a122), some (.ref x5), some (.int x6), some (.int (v69 + (983 * x6))), none, none, none], [.ref a122, .int v119], (mk B120), B120.kc, B120.kn)) rfl ?_
            obtain ⟨uh139, h139, hr⟩ := bd_some hr
            obtain ⟨h138, -⟩ := itn_some h139
            refine x_nulx rfl rfl h138 ?_
            refine x_b 1 (S2 := (285, [some (.ref am_SB), some (.ref 0), some (.ref x2), some (.ref x3), some (.ref a122), some (.ref x5), some (.int x6), some (.int (v69 + (983 * x6))), none, none, none], [.ref a122, .int v119], (mk B120), B120.kc, B120.kn)) rfl ?_
            obtain ⟨v140, h141, hr⟩ := bd_some hr
            refine x_gI rfl rfl h141 ?_
            refine x_fg (Lq.s (Lq.s (Lq.s (Lq.s (Lq.s (Lq.s (Lq.s (Lq.n (Lq.s (Lq.s (Lq.s Lq.nil))))))))))) ?_
            exact j_389_133_j288 hd hr ka kx kr
        · refine x_cf rfl rfl (decide_eq_false h117) ?_
          refine x_b 1 (S2 := (244, [some (.ref am_SB), some (.ref 0), some (.ref x2), some (.ref x3), some (va_rf x4), some (.ref x5), some (.int x6), some (.int (v69 + (983 * x6))), none, none, none], [.ref 0], (mk B), B.kc, B.kn)) rfl ?_
          obtain ⟨⟨v143, B144⟩, h142, hr⟩ := bd_some hr
          refine x_cW (m_95 h142) rfl rfl rfl rfl (am_recv_v ((rg_pp (W := B)).lt (i := 0) (show 0 < 1 by decide)) ((rg_pp (W := B)).at (i := 0) rfl) rfl) (by omega) ?_
          refine x_b 1 (S2 := (248, [some (.ref am_SB), some (.ref 0), some (.ref x2), some (.ref x3), some (va_rf x4), some (.ref x5), some (.int x6), some (.int (v69 + (983 * x6))), none, none, none], [.ref x2, .int v143], (mk B144), B144.kc, B144.kn)) rfl ?_
          obtain ⟨v145, h146, hr⟩ := bd_some hr
          refine x_gI rfl rfl h146 ?_
          rcases ite_some hr with ⟨h147, hr⟩ | ⟨h147, hr⟩
          · refine x_ct rfl rfl (decide_eq_true h147) ?_
            obtain ⟨⟨a148, B149⟩, h150, hr⟩ := bd_some hr
            refine x_nO rfl rfl h150 ?_
            refine x_b 2 (S2 := (261, [some (.ref am_SB), some (.ref 0), some (.ref x2), some (.ref x3), some (va_rf x4), some (.ref x5), some (.int x6), some (.int (v69 + (983 * x6))), none, none, none], [.ref x2, .ref a148, .ref a148], (mk B149), B149.kc, B149.kn)) rfl ?_
            obtain ⟨uh152, h152, hr⟩ := bd_some hr
            obtain ⟨h151, -⟩ := itn_some h152
            obtain ⟨B154, h153, hr⟩ := bd_some hr
            refine x_cW (m_303 h153) rfl rfl rfl rfl (am_recv_p h151 (by decide)) (by omega) ?_
            refine x_b 2 (S2 := (408, [some (.ref am_SB), some (.ref 0), some (.ref x2), some (.ref x3), some (.ref a148), some (.ref x5), some (.int x6), some (.int (v69 + (983 * x6))), none, none, none], [], (mk B154), B154.kc, B154.kn)) rfl ?_
            refine x_fg (Lq.s (Lq.s (Lq.s (Lq.s (Lq.s (Lq.s (Lq.s (Lq.n (Lq.s (Lq.s (Lq.s Lq.nil))))))))))) ?_
            exact j_389_133_j408 hd hr ka kx kr
          · refine x_cf rfl rfl (decide_eq_false h147) ?_
            refine x_b 1 (S2 := (255, [some (.ref am_SB), some (.ref 0), some (.ref x2), some (.ref x3), some (va_rf x4), some (.ref x5), some (.int x6), some (.int (v69 + (983 * x6))), none, none, none], [.int 0], (mk B144), B144.kc, B144.kn)) rfl ?_
            rw [kr _ (Option.some.inj hr).symm]
            exact x_ret rfl rfl (am_ret_z (by decide))
      · refine x_cf rfl rfl (decide_eq_false h116) ?_
        refine x_b 1 (S2 := (182, [some (.ref am_SB), some (.ref 0), some (.ref x2), some (.ref x3), some (va_rf x4), some (.ref x5), some (.int x6), some (.int (v69 + (983 * x6))), none, none, none], [.ref 0], (mk B), B.kc, B.kn)) rfl ?_
        obtain ⟨⟨v156, B157⟩, h155, hr⟩ := bd_some hr
        refine x_cW (m_379 h155) rfl rfl rfl rfl rfl (by omega) ?_
        refine x_b 1 (S2 := (186, [some (.ref am_SB), some (.ref 0), some (.ref x2), some (.ref x3), some (va_rf x4), some (.ref x5), some (.int x6), some (.int (v69 + (983 * x6))), none, none, none], [.ref x3, .int v156], (mk B157), B157.kc, B157.kn)) rfl ?_
        obtain ⟨uh158, h158, hr⟩ := bd_some hr
        obtain ⟨v160, h159, hr⟩ := bd_some hr
        refine x_cW (m_350 h159) rfl rfl rfl rfl (am_recv_c h158 (.inl rfl)) (by omega) ?_
        rcases ite_some hr with ⟨h161, hr⟩ | ⟨h161, hr⟩
        · refine x_zt rfl rfl (decide_eq_true h161) ?_
          refine x_b 1 (S2 := (198, [some (.ref am_SB), some (.ref 0), some (.ref x2), some (.ref x3), some (va_rf x4), some (.ref x5), some (.int x6), some (.int (v69 + (983 * x6))), none, none, none], [.ref x3, .int v156], (mk B157), B157.kc, B157.kn)) rfl ?_
          obtain ⟨uh162, h162, hr⟩ := bd_some hr
          obtain ⟨v164, h163, hr⟩ := bd_some hr
          refine x_cW (m_349 h163) rfl rfl rfl rfl (am_recv_c h162 (.inl rfl)) (by omega) ?_
          refine x_b 2 (S2 := (203, [some (.ref am_SB), some (.ref 0), some (.ref x2), some (.ref x3), some (va_rf x4), some (.ref x5), some (.int x6), some (.int (v69 + (983 * x6))), none, none, none], [.int (v164 - 1), .int v156], (mk B157), B157.kc, B157.kn)) rfl ?_
          refine x_fg (Lq.s (Lq.s (Lq.s (Lq.s (Lq.s (Lq.s (Lq.s (Lq.n (Lq.s (Lq.s (Lq.s Lq.nil))))))))))) ?_
          exact j_389_133_j203 hd hr ka kx kr
        · refine x_zf rfl rfl (decide_eq_false h161) ?_
          refine x_b 2 (S2 := (203, [some (.ref am_SB), some (.ref 0), some (.ref x2), some (.ref x3), some (va_rf x4), some (.ref x5), some (.int x6), some (.int (v69 + (983 * x6))), none, none, none], [.int (3294967293 : Int32), .int v156], (mk B157), B157.kc, B157.kn)) rfl ?_
          refine x_fg (Lq.s (Lq.s (Lq.s (Lq.s (Lq.s (Lq.s (Lq.s (Lq.n (Lq.s (Lq.s (Lq.s Lq.nil))))))))))) ?_
          exact j_389_133_j203 hd hr ka kx kr
def J_389_0_j467 (L : Nat) (xs : Nat → Int32) (B : Wd) (t0 : Int32) : Option (Int32 × Wd) :=
  (if t0 = 0 ∨ t0 = 1 then some () else none).bind fun _ =>
  some (t0, B)
set_option maxRecDepth 200000 in
theorem j_389_0_j467 {d : Nat} (hd : 69 ≤ d) {L : Nat} {xs : Nat → Int32} {res : ARe} {B : Wd} {t0 : Int32} {o : Int32 × Wd} (hr : J_389_0_j467 L xs B t0 = some o) (kr : res = (.inl (some (.int o.1)), mk o.2, Wd.kc o.2, Wd.kn o.2)) : Ex d am_M389 (some (L, xs)) (467, [none, none, none, none, none, none, none, none, none, none, none], [.int t0], (mk B), B.kc, B.kn) res := by
  delta J_389_0_j467 at hr
  obtain ⟨uh187, h187, hr⟩ := bd_some hr
  obtain ⟨h186, -⟩ := itn_some h187
  cases hr
  rw [kr]
  exact x_ret rfl rfl (am_ret_z h186)
def J_389_0_j466 (L : Nat) (xs : Nat → Int32) (B : Wd) : Option (Int32 × Wd) :=
  J_389_0_j467 L xs B 0
set_option maxRecDepth 200000 in
theorem j_389_0_j466 {d : Nat} (hd : 69 ≤ d) {L : Nat} {xs : Nat → Int32} {res : ARe} {B : Wd} {o : Int32 × Wd} (hr : J_389_0_j466 L xs B = some o) (kr : res = (.inl (some (.int o.1)), mk o.2, Wd.kc o.2, Wd.kn o.2)) : Ex d am_M389 (some (L, xs)) (466, [none, none, none, none, none, none, none, none, none, none, none], [], (mk B), B.kc, B.kn) res := by
  delta J_389_0_j466 at hr
  refine x_b 1 (S2 := (467, [none, none, none, none, none, none, none, none, none, none, none], [.int 0], (mk B), B.kc, B.kn)) rfl ?_
  refine x_fg (Lq.s (Lq.s (Lq.s (Lq.s (Lq.s (Lq.s (Lq.s (Lq.s (Lq.s (Lq.s (Lq.s Lq.nil))))))))))) ?_
  exact j_389_0_j467 hd hr kr
def F_389 (L : Nat) (xs : Nat → Int32) (B : Wd) : Option (Int32 × Wd) :=
  (F_379 B).bind fun (v2, B3) =>
  if ¬ v2 = (3294967293 : Int32) then
    J_389_0_j63 L xs B3
  else
    (F_380 B3).bind fun (v6, B7) =>
    if ¬ v6 = (3294967293 : Int32) then
      J_389_0_j63 L xs B7
    else
      (F_368 B7).bind fun (v10, B11) =>
      if ¬ v10 = (3294967294 : Int32) then
        J_389_0_j63 L xs B11
      else
        (F_371 B11 3 0).bind fun (v14, B15) =>
        if ¬ v14 = (3294967295 : Int32) then
          J_389_0_j63 L xs B15
        else
          (F_97 B15).bind fun v18 =>
          if ¬ v18 = 0 then
            J_389_0_j63 L xs B15
          else
            (F_308 B15).bind fun (a21, B22) =>
            (B22.rc a21 7).bind fun _ =>
            (F_317 B22 a21).bind fun (v25, B26) =>
            if ¬ v25 = 0 then
              (F_309 L xs B26).bind fun (a29, B30) =>
              (B30.rc a29 7).bind fun _ =>
              (F_310 B30 a29).bind fun (a33, B34) =>
              (F_369 B34 a33).bind fun (v36, B37) =>
              if v36 = 0 then
                J_389_0_j108 L xs B37
              else
                (F_82 B37).bind fun (v40, B41) =>
                if ¬ v40 = (-1) then
                  J_389_0_j108 L xs B41
                else
                  (F_368 B41).bind fun (v44, B45) =>
                  (B45.gI a29 7 0).bind fun v46 =>
                  if ¬ v44 = v46 then
                    J_389_0_j108 L xs B45
                  else
                    (B45.rc a29 7).bind fun _ =>
                    (F_317 B45 a29).bind fun (v51, B52) =>
                    if ¬ v51 = 0 then
                      (B52.nO 10).bind fun (a54, B55) =>
                      (if a54 < am_SB then some () else none).bind fun _ =>
                      (F_346 B55 a54).bind fun B60 =>
                      (B60.nO 6).bind fun (a61, B62) =>
                      (if a61 < am_SB then some () else none).bind fun _ =>
                      (F_300 B62 a61).bind fun _ =>
                      (lw (G_389_133 L xs a54 a61) 200000 (a29, none, 0, B62)).bind fun r =>
                        match r with
                        | .inr r193 => some r193
                        | .inl (v179, B180) =>
                          (F_388 B180).bind fun (v183, B184) =>
                          if v183 = 0 then
                            J_389_0_j466 L xs B184
                          else
                            (B184.rc v179 7).bind fun _ =>
                            (F_317 B184 v179).bind fun (v190, B191) =>
                            if v190 = 0 then
                              J_389_0_j466 L xs B191
                            else
                              J_389_0_j467 L xs B191 1
                    else
                      J_389_0_j108 L xs B52
            else
              J_389_0_j63 L xs B26
set_option maxRecDepth 200000 in
theorem f_389 {d : Nat} (hd : 69 ≤ d) {L : Nat} {xs : Nat → Int32} {res : ARe} {B : Wd} {o : Int32 × Wd} (hr : F_389 L xs B = some o) (kr : res = (.inl (some (.int o.1)), mk o.2, Wd.kc o.2, Wd.kn o.2)) : Ex d am_M389 (some (L, xs)) (8, [some (.ref am_SB), some (.ref 0), none, none, none, none, none, none, none, none, none], [], (mk B), B.kc, B.kn) res := by
  delta F_389 at hr
  refine x_b 1 (S2 := (9, [some (.ref am_SB), some (.ref 0), none, none, none, none, none, none, none, none, none], [.ref 0], (mk B), B.kc, B.kn)) rfl ?_
  obtain ⟨⟨v2, B3⟩, h1, hr⟩ := bd_some hr
  refine x_cW (m_379 h1) rfl rfl rfl rfl rfl (by omega) ?_
  refine x_b 1 (S2 := (14, [some (.ref am_SB), some (.ref 0), none, none, none, none, none, none, none, none, none], [.int (3294967293 : Int32), .int v2], (mk B3), B3.kc, B3.kn)) rfl ?_
  rcases ite_some hr with ⟨h4, hr⟩ | ⟨h4, hr⟩
  · refine x_ct rfl rfl (decide_eq_true h4) ?_
    refine x_fg (Lq.n (Lq.n (Lq.s (Lq.s (Lq.s (Lq.s (Lq.s (Lq.s (Lq.s (Lq.s (Lq.s Lq.nil))))))))))) ?_
    exact j_389_0_j63 hd hr kr
  · refine x_cf rfl rfl (decide_eq_false h4) ?_
    refine x_b 1 (S2 := (18, [some (.ref am_SB), some (.ref 0), none, none, none, none, none, none, none, none, none], [.ref 0], (mk B3), B3.kc, B3.kn)) rfl ?_
    obtain ⟨⟨v6, B7⟩, h5, hr⟩ := bd_some hr
    refine x_cW (m_380 h5) rfl rfl rfl rfl rfl (by omega) ?_
    refine x_b 1 (S2 := (23, [some (.ref am_SB), some (.ref 0), none, none, none, none, none, none, none, none, none], [.int (3294967293 : Int32), .int v6], (mk B7), B7.kc, B7.kn)) rfl ?_
    rcases ite_some hr with ⟨h8, hr⟩ | ⟨h8, hr⟩
    · refine x_ct rfl rfl (decide_eq_true h8) ?_
      refine x_fg (Lq.n (Lq.n (Lq.s (Lq.s (Lq.s (Lq.s (Lq.s (Lq.s (Lq.s (Lq.s (Lq.s Lq.nil))))))))))) ?_
      exact j_389_0_j63 hd hr kr
    · refine x_cf rfl rfl (decide_eq_false h8) ?_
      refine x_b 1 (S2 := (27, [some (.ref am_SB), some (.ref 0), none, none, none, none, none, none, none, none, none], [.ref 0], (mk B7), B7.kc, B7.kn)) rfl ?_
      obtain ⟨⟨v10, B11⟩, h9, hr⟩ := bd_some hr
      refine x_cW (m_368 h9) rfl rfl rfl rfl rfl (by omega) ?_
      refine x_b 1 (S2 := (32, [some (.ref am_SB), some (.ref 0), none, none, none, none, none, none, none, none, none], [.int (3294967294 : Int32), .int v10], (mk B11), B11.kc, B11.kn)) rfl ?_
      rcases ite_some hr with ⟨h12, hr⟩ | ⟨h12, hr⟩
      · refine x_ct rfl rfl (decide_eq_true h12) ?_
        refine x_fg (Lq.n (Lq.n (Lq.s (Lq.s (Lq.s (Lq.s (Lq.s (Lq.s (Lq.s (Lq.s (Lq.s Lq.nil))))))))))) ?_
        exact j_389_0_j63 hd hr kr
      · refine x_cf rfl rfl (decide_eq_false h12) ?_
        refine x_b 3 (S2 := (38, [some (.ref am_SB), some (.ref 0), none, none, none, none, none, none, none, none, none], [.int 0, .int 3, .ref 0], (mk B11), B11.kc, B11.kn)) rfl ?_
        obtain ⟨⟨v14, B15⟩, h13, hr⟩ := bd_some hr
        refine x_cW (m_371 h13) rfl rfl rfl rfl rfl (by omega) ?_
        refine x_b 1 (S2 := (43, [some (.ref am_SB), some (.ref 0), none, none, none, none, none, none, none, none, none], [.int (3294967295 : Int32), .int v14], (mk B15), B15.kc, B15.kn)) rfl ?_
        rcases ite_some hr with ⟨h16, hr⟩ | ⟨h16, hr⟩
        · refine x_ct rfl rfl (decide_eq_true h16) ?_
          refine x_fg (Lq.n (Lq.n (Lq.s (Lq.s (Lq.s (Lq.s (Lq.s (Lq.s (Lq.s (Lq.s (Lq.s Lq.nil))))))))))) ?_
          exact j_389_0_j63 hd hr kr
        · refine x_cf rfl rfl (decide_eq_false h16) ?_
          refine x_b 1 (S2 := (47, [some (.ref am_SB), some (.ref 0), none, none, none, none, none, none, none, none, none], [.ref 0], (mk B15), B15.kc, B15.kn)) rfl ?_
          obtain ⟨v18, h17, hr⟩ := bd_some hr
          refine x_cW (m_97 h17) rfl rfl rfl rfl (am_recv_v ((rg_pp (W := B15)).lt (i := 0) (show 0 < 1 by decide)) ((rg_pp (W := B15)).at (i := 0) rfl) rfl) (by omega) ?_
          rcases ite_some hr with ⟨h19, hr⟩ | ⟨h19, hr⟩
          · refine x_zt rfl rfl (decide_eq_true h19) ?_
            refine x_fg (Lq.n (Lq.n (Lq.s (Lq.s (Lq.s (Lq.s (Lq.s (Lq.s (Lq.s (Lq.s (Lq.s Lq.nil))))))))))) ?_
            exact j_389_0_j63 hd hr kr
          · refine x_zf rfl rfl (decide_eq_false h19) ?_
            obtain ⟨⟨a21, B22⟩, h20, hr⟩ := bd_some hr
            refine x_cW (m_308 h20) rfl rfl rfl rfl rfl (by omega) ?_
            refine x_b 1 (S2 := (57, [some (.ref am_SB), some (.ref 0), none, none, none, none, none, none, none, none, none], [.ref 0, .ref a21], (mk B22), B22.kc, B22.kn)) rfl ?_
            obtain ⟨uh23, h23, hr⟩ := bd_some hr
            obtain ⟨⟨v25, B26⟩, h24, hr⟩ := bd_some hr
            refine x_cW (m_317 h24) rfl rfl rfl rfl (am_recv_c h23 (.inl rfl)) (by omega) ?_
            rcases ite_some hr with ⟨h27, hr⟩ | ⟨h27, hr⟩
            · refine x_zt rfl rfl (decide_eq_true h27) ?_
              refine x_b 1 (S2 := (66, [some (.ref am_SB), some (.ref 0), none, none, none, none, none, none, none, none, none], [.ref am_SB], (mk B26), B26.kc, B26.kn)) rfl ?_
              obtain ⟨⟨a29, B30⟩, h28, hr⟩ := bd_some hr
              refine x_cW (m_309 h28) rfl rfl rfl rfl rfl (by omega) ?_
              refine x_b 3 (S2 := (72, [some (.ref am_SB), some (.ref 0), some (.ref a29), none, none, none, none, none, none, none, none], [.ref a29, .ref 0], (mk B30), B30.kc, B30.kn)) rfl ?_
              obtain ⟨uh31, h31, hr⟩ := bd_some hr
              obtain ⟨⟨a33, B34⟩, h32, hr⟩ := bd_some hr
              refine x_cW (m_310 h32) rfl rfl rfl rfl (am_recv_c h31 (.inl rfl)) (by omega) ?_
              obtain ⟨⟨v36, B37⟩, h35, hr⟩ := bd_some hr
              refine x_cW (m_369 h35) rfl rfl rfl rfl rfl (by omega) ?_
              rcases ite_some hr with ⟨h38, hr⟩ | ⟨h38, hr⟩
              · refine x_zt rfl rfl (decide_eq_true h38) ?_
                refine x_fg (Lq.n (Lq.n (Lq.n (Lq.s (Lq.s (Lq.s (Lq.s (Lq.s (Lq.s (Lq.s (Lq.s Lq.nil))))))))))) ?_
                exact j_389_0_j108 hd hr kr
              · refine x_zf rfl rfl (decide_eq_false h38) ?_
                refine x_b 1 (S2 := (82, [some (.ref am_SB), some (.ref 0), some (.ref a29), none, none, none, none, none, none, none, none], [.ref 0], (mk B37), B37.kc, B37.kn)) rfl ?_
                obtain ⟨⟨v40, B41⟩, h39, hr⟩ := bd_some hr
                refine x_cW (m_82 h39) rfl rfl rfl rfl (am_recv_v ((rg_pp (W := B37)).lt (i := 0) (show 0 < 1 by decide)) ((rg_pp (W := B37)).at (i := 0) rfl) rfl) (by omega) ?_
                refine x_b 1 (S2 := (86, [some (.ref am_SB), some (.ref 0), some (.ref a29), none, none, none, none, none, none, none, none], [.int (-1), .int v40], (mk B41), B41.kc, B41.kn)) rfl ?_
                rcases ite_some hr with ⟨h42, hr⟩ | ⟨h42, hr⟩
                · refine x_ct rfl rfl (decide_eq_true h42) ?_
                  refine x_fg (Lq.n (Lq.n (Lq.n (Lq.s (Lq.s (Lq.s (Lq.s (Lq.s (Lq.s (Lq.s (Lq.s Lq.nil))))))))))) ?_
                  exact j_389_0_j108 hd hr kr
                · refine x_cf rfl rfl (decide_eq_false h42) ?_
                  refine x_b 1 (S2 := (90, [some (.ref am_SB), some (.ref 0), some (.ref a29), none, none, none, none, none, none, none, none], [.ref 0], (mk B41), B41.kc, B41.kn)) rfl ?_
                  obtain ⟨⟨v44, B45⟩, h43, hr⟩ := bd_some hr
                  refine x_cW (m_368 h43) rfl rfl rfl rfl rfl (by omega) ?_
                  refine x_b 1 (S2 := (94, [some (.ref am_SB), some (.ref 0), some (.ref a29), none, none, none, none, none, none, none, none], [.ref a29, .int v44], (mk B45), B45.kc, B45.kn)) rfl ?_
                  obtain ⟨v46, h47, hr⟩ := bd_some hr
                  refine x_gI rfl rfl h47 ?_
                  rcases ite_some hr with ⟨h48, hr⟩ | ⟨h48, hr⟩
                  · refine x_ct rfl rfl (decide_eq_true h48) ?_
                    refine x_fg (Lq.n (Lq.n (Lq.n (Lq.s (Lq.s (Lq.s (Lq.s (Lq.s (Lq.s (Lq.s (Lq.s Lq.nil))))))))))) ?_
                    exact j_389_0_j108 hd hr kr
                  · refine x_cf rfl rfl (decide_eq_false h48) ?_
                    refine x_b 2 (S2 := (102, [some (.ref am_SB), some (.ref 0), some (.ref a29), none, none, none, none, none, none, none, none], [.ref 0, .ref a29], (mk B45), B45.kc, B45.kn)) rfl ?_
                    obtain ⟨uh49, h49, hr⟩ := bd_some hr
                    obtain ⟨⟨v51, B52⟩, h50, hr⟩ := bd_some hr
                    refine x_cW (m_317 h50) rfl rfl rfl rfl (am_recv_c h49 (.inl rfl)) (by omega) ?_
                    rcases ite_some hr with ⟨h53, hr⟩ | ⟨h53, hr⟩
                    · refine x_zt rfl rfl (decide_eq_true h53) ?_
                      obtain ⟨⟨a54, B55⟩, h56, hr⟩ := bd_some hr
                      refine x_nO rfl rfl h56 ?_
                      refine x_b 1 (S2 := (114, [some (.ref am_SB), some (.ref 0), some (.ref a29), none, none, none, none, none, none, none, none], [.ref a54, .ref a54], (mk B55), B55.kc, B55.kn)) rfl ?_
                      obtain ⟨uh58, h58, hr⟩ := bd_some hr
                      obtain ⟨h57, -⟩ := itn_some h58
                      obtain ⟨B60, h59, hr⟩ := bd_some hr
                      refine x_cW (m_346 h59) rfl rfl rfl rfl (am_recv_p h57 (by decide)) (by omega) ?_
                      refine x_b 3 (S2 := (121, [some (.ref am_SB), some (.ref 0), some (.ref a29), some (.ref a54), some (.null), none, none, none, none, none, none], [], (mk B60), B60.kc, B60.kn)) rfl ?_
                      obtain ⟨⟨a61, B62⟩, h63, hr⟩ := bd_some hr
                      refine x_nO rfl rfl h63 ?_
                      refine x_b 1 (S2 := (125, [some (.ref am_SB), some (.ref 0), some (.ref a29), some (.ref a54), some (.null), none, none, none, none, none, none], [.ref a61, .ref a61], (mk B62), B62.kc, B62.kn)) rfl ?_
                      obtain ⟨uh65, h65, hr⟩ := bd_some hr
                      obtain ⟨h64, -⟩ := itn_some h65
                      obtain ⟨uh66, h66, hr⟩ := bd_some hr
                      refine x_cW (m_300 h66) rfl rfl rfl rfl (am_recv_p h64 (by decide)) (by omega) ?_
                      refine x_b 3 (S2 := (133, [some (.ref am_SB), some (.ref 0), some (.ref a29), some (.ref a54), some (.null), some (.ref a61), some (.int 0), none, none, none, none], [], (mk B62), B62.kc, B62.kn)) rfl ?_
                      refine x_fg (Lq.s (Lq.s (Lq.s (Lq.s (Lq.s (Lq.s (Lq.s (Lq.s (Lq.s (Lq.s (Lq.s Lq.nil))))))))))) ?_
                      obtain ⟨o181, h178, hr⟩ := bd_some hr
                      refine x_lw (P := P_389_133 L xs a54 a61) (Q := fun x => match x with | .inl e => Ex d am_M389 (some (L, xs)) (PX_389_133 L xs a54 a61 e) res | .inr r => res = (.inl (some (.int r.1)), mk r.2, Wd.kc r.2, Wd.kn r.2)) (fun s o h1 ka kx => g_389_133 hd h1 ka (fun e he => kx (.inl e) he) (fun r he => kx (.inr r) he)) _ (a29, none, 0, B62) _ h178 ?_
                      rcases o181 with ⟨v179, B180⟩ | r193
                      · show Ex d am_M389 (some (L, xs)) (447, [none, some (.ref 0), some (.ref v179), none, none, none, none, none, none, none, none], [], (mk B180), B180.kc, B180.kn) res
                        refine x_b 1 (S2 := (448, [none, some (.ref 0), some (.ref v179), none, none, none, none, none, none, none, none], [.ref 0], (mk B180), B180.kc, B180.kn)) rfl ?_
                        obtain ⟨⟨v183, B184⟩, h182, hr⟩ := bd_some hr
                        refine x_cW (m_388 h182) rfl rfl rfl rfl rfl (by omega) ?_
                        rcases ite_some hr with ⟨h185, hr⟩ | ⟨h185, hr⟩
                        · refine x_zt rfl rfl (decide_eq_true h185) ?_
                          refine x_fg (Lq.s (Lq.n (Lq.n (Lq.s (Lq.s (Lq.s (Lq.s (Lq.s (Lq.s (Lq.s (Lq.s Lq.nil))))))))))) ?_
                          exact j_389_0_j466 hd hr kr
                        · refine x_zf rfl rfl (decide_eq_false h185) ?_
                          refine x_b 2 (S2 := (456, [none, some (.ref 0), some (.ref v179), none, none, none, none, none, none, none, none], [.ref 0, .ref v179], (mk B184), B184.kc, B184.kn)) rfl ?_
                          obtain ⟨uh188, h188, hr⟩ := bd_some hr
                          obtain ⟨⟨v190, B191⟩, h189, hr⟩ := bd_some hr
                          refine x_cW (m_317 h189) rfl rfl rfl rfl (am_recv_c h188 (.inl rfl)) (by omega) ?_
                          rcases ite_some hr with ⟨h192, hr⟩ | ⟨h192, hr⟩
                          · refine x_zt rfl rfl (decide_eq_true h192) ?_
                            refine x_fg (Lq.s (Lq.n (Lq.n (Lq.s (Lq.s (Lq.s (Lq.s (Lq.s (Lq.s (Lq.s (Lq.s Lq.nil))))))))))) ?_
                            exact j_389_0_j466 hd hr kr
                          · refine x_zf rfl rfl (decide_eq_false h192) ?_
                            refine x_b 2 (S2 := (467, [none, some (.ref 0), some (.ref v179), none, none, none, none, none, none, none, none], [.int 1], (mk B191), B191.kc, B191.kn)) rfl ?_
                            refine x_fg (Lq.s (Lq.n (Lq.n (Lq.s (Lq.s (Lq.s (Lq.s (Lq.s (Lq.s (Lq.s (Lq.s Lq.nil))))))))))) ?_
                            exact j_389_0_j467 hd hr kr
                      · cases hr; exact kr
                    · refine x_zf rfl rfl (decide_eq_false h53) ?_
                      refine x_fg (Lq.n (Lq.n (Lq.n (Lq.s (Lq.s (Lq.s (Lq.s (Lq.s (Lq.s (Lq.s (Lq.s Lq.nil))))))))))) ?_
                      exact j_389_0_j108 hd hr kr
            · refine x_zf rfl rfl (decide_eq_false h27) ?_
              refine x_fg (Lq.n (Lq.n (Lq.s (Lq.s (Lq.s (Lq.s (Lq.s (Lq.s (Lq.s (Lq.s (Lq.s Lq.nil))))))))))) ?_
              exact j_389_0_j63 hd hr kr
