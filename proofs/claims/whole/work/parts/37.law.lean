abbrev P_299_23 (L : Nat) (xs : Nat → Int32) (s : Int32 × Wd) : ASt := (23, [some (.ref am_SB), some (.ref 0), some (.ref 29), some (.ref 46), some (.int s.1), none, none], [], (mk s.2), Wd.kc s.2, Wd.kn s.2)
abbrev PX_299_23 (L : Nat) (xs : Nat → Int32) (s : Wd) : ASt := (2570, [none, none, none, none, none, none, none], [], (mk s), Wd.kc s, Wd.kn s)
def J_299_23_j2564 (L : Nat) (xs : Nat → Int32) (B : Wd) (x4 : Int32) : Option ((Int32 × Wd) ⊕ (Wd) ⊕ (Int32 × Wd)) :=
  some (.inl ((x4 + 6), B))
set_option maxRecDepth 200000 in
theorem j_299_23_j2564 {d : Nat} (hd : 11 ≤ d) {L : Nat} {xs : Nat → Int32} {res : ARe} {B : Wd} {x4 : Int32} {o : (Int32 × Wd) ⊕ (Wd) ⊕ (Int32 × Wd)} (hr : J_299_23_j2564 L xs B x4 = some o) (ka : ∀ s, o = .inl s → Ex d am_M299 (some (L, xs)) (P_299_23 L xs s) res) (kx : ∀ s, o = .inr (.inl s) → Ex d am_M299 (some (L, xs)) (PX_299_23 L xs s) res) (kr : ∀ r, o = .inr (.inr r) → res = (.inl (some (.int r.1)), mk r.2, Wd.kc r.2, Wd.kn r.2)) : Ex d am_M299 (some (L, xs)) (2564, [some (.ref am_SB), some (.ref 0), some (.ref 29), some (.ref 46), some (.int x4), none, none], [], (mk B), B.kc, B.kn) res := by
  delta J_299_23_j2564 at hr
  refine x_b 2 (S2 := (23, [some (.ref am_SB), some (.ref 0), some (.ref 29), some (.ref 46), some (.int (x4 + 6)), none, none], [], (mk B), B.kc, B.kn)) rfl ?_
  refine x_fg (Lq.s (Lq.s (Lq.s (Lq.s (Lq.s (Lq.s (Lq.s Lq.nil))))))) ?_
  exact ka ((x4 + 6), B) (Option.some.inj hr).symm
def J_299_23_j333 (L : Nat) (xs : Nat → Int32) (B : Wd) (x4 : Int32) : Option ((Int32 × Wd) ⊕ (Wd) ⊕ (Int32 × Wd)) :=
  J_299_23_j2564 L xs B x4
set_option maxRecDepth 200000 in
theorem j_299_23_j333 {d : Nat} (hd : 11 ≤ d) {L : Nat} {xs : Nat → Int32} {res : ARe} {B : Wd} {x4 : Int32} {o : (Int32 × Wd) ⊕ (Wd) ⊕ (Int32 × Wd)} (hr : J_299_23_j333 L xs B x4 = some o) (ka : ∀ s, o = .inl s → Ex d am_M299 (some (L, xs)) (P_299_23 L xs s) res) (kx : ∀ s, o = .inr (.inl s) → Ex d am_M299 (some (L, xs)) (PX_299_23 L xs s) res) (kr : ∀ r, o = .inr (.inr r) → res = (.inl (some (.int r.1)), mk r.2, Wd.kc r.2, Wd.kn r.2)) : Ex d am_M299 (some (L, xs)) (333, [some (.ref am_SB), some (.ref 0), some (.ref 29), some (.ref 46), some (.int x4), none, none], [], (mk B), B.kc, B.kn) res := by
  delta J_299_23_j333 at hr
  refine x_b 1 (S2 := (2564, [some (.ref am_SB), some (.ref 0), some (.ref 29), some (.ref 46), some (.int x4), none, none], [], (mk B), B.kc, B.kn)) rfl ?_
  refine x_fg (Lq.s (Lq.s (Lq.s (Lq.s (Lq.s (Lq.s (Lq.s Lq.nil))))))) ?_
  exact j_299_23_j2564 hd hr ka kx kr
def J_299_23_j232 (L : Nat) (xs : Nat → Int32) (B : Wd) (x4 : Int32) : Option ((Int32 × Wd) ⊕ (Wd) ⊕ (Int32 × Wd)) :=
  (ix (x4 + 1) L).bind fun i5 =>
  (ix (x4 + 2) L).bind fun i7 =>
  (ix (x4 + 3) L).bind fun i9 =>
  (ix (x4 + 4) L).bind fun i11 =>
  (ix (x4 + 5) L).bind fun i13 =>
  (F_263 B (xs i5) (xs i7) (xs i9) (xs i11) (xs i13)).bind fun (v16, B17) =>
  (ix (x4 + 1) L).bind fun i18 =>
  (ix (x4 + 2) L).bind fun i20 =>
  (ix (x4 + 3) L).bind fun i22 =>
  (ix (x4 + 4) L).bind fun i24 =>
  (ix (x4 + 5) L).bind fun i26 =>
  (F_139 B17.md (xs i18) (xs i20) (xs i22) (xs i24) (xs i26)).bind fun (v30, o29) =>
  (some (B17.w_md o29)).bind fun B31 =>
  (F_133 B31.md).bind fun v34 =>
  if v34 = v16 then
    if ¬ v16 = 0 then
      J_299_23_j333 L xs B31 x4
    else
      (ix 0 1).bind fun i37 =>
      if (lg_cmp (B31.out i37) v30.toInt64) = 0 then
        J_299_23_j333 L xs B31 x4
      else
        some (.inr (.inr (0, B31)))
  else
    some (.inr (.inr (0, B31)))
set_option maxRecDepth 200000 in
theorem j_299_23_j232 {d : Nat} (hd : 11 ≤ d) {L : Nat} {xs : Nat → Int32} {res : ARe} {B : Wd} {x4 : Int32} {o : (Int32 × Wd) ⊕ (Wd) ⊕ (Int32 × Wd)} (hr : J_299_23_j232 L xs B x4 = some o) (ka : ∀ s, o = .inl s → Ex d am_M299 (some (L, xs)) (P_299_23 L xs s) res) (kx : ∀ s, o = .inr (.inl s) → Ex d am_M299 (some (L, xs)) (PX_299_23 L xs s) res) (kr : ∀ r, o = .inr (.inr r) → res = (.inl (some (.int r.1)), mk r.2, Wd.kc r.2, Wd.kn r.2)) : Ex d am_M299 (some (L, xs)) (232, [some (.ref am_SB), some (.ref 0), some (.ref 29), some (.ref 46), some (.int x4), none, none], [], (mk B), B.kc, B.kn) res := by
  delta J_299_23_j232 at hr
  refine x_ldan rfl rfl rfl ((rg_pp (W := B)).lt (i := 0) (show 0 < 1 by decide)) ?_
  refine x_ldsn rfl rfl rfl ?_
  refine x_b 3 (S2 := (238, [some (.ref am_SB), some (.ref 0), some (.ref 29), some (.ref 46), some (.int x4), none, none], [.int (x4 + 1), .ref am_SB, .ref 0], (mk B), B.kc, B.kn)) rfl ?_
  obtain ⟨i5, h6, hr⟩ := bd_some hr
  refine x_sld rfl rfl h6 ?_
  refine x_ldsn rfl rfl rfl ?_
  refine x_b 3 (S2 := (244, [some (.ref am_SB), some (.ref 0), some (.ref 29), some (.ref 46), some (.int x4), none, none], [.int (x4 + 2), .ref am_SB, .int (xs i5), .ref 0], (mk B), B.kc, B.kn)) rfl ?_
  obtain ⟨i7, h8, hr⟩ := bd_some hr
  refine x_sld rfl rfl h8 ?_
  refine x_ldsn rfl rfl rfl ?_
  refine x_b 3 (S2 := (250, [some (.ref am_SB), some (.ref 0), some (.ref 29), some (.ref 46), some (.int x4), none, none], [.int (x4 + 3), .ref am_SB, .int (xs i7), .int (xs i5), .ref 0], (mk B), B.kc, B.kn)) rfl ?_
  obtain ⟨i9, h10, hr⟩ := bd_some hr
  refine x_sld rfl rfl h10 ?_
  refine x_ldsn rfl rfl rfl ?_
  refine x_b 3 (S2 := (256, [some (.ref am_SB), some (.ref 0), some (.ref 29), some (.ref 46), some (.int x4), none, none], [.int (x4 + 4), .ref am_SB, .int (xs i9), .int (xs i7), .int (xs i5), .ref 0], (mk B), B.kc, B.kn)) rfl ?_
  obtain ⟨i11, h12, hr⟩ := bd_some hr
  refine x_sld rfl rfl h12 ?_
  refine x_ldsn rfl rfl rfl ?_
  refine x_b 3 (S2 := (262, [some (.ref am_SB), some (.ref 0), some (.ref 29), some (.ref 46), some (.int x4), none, none], [.int (x4 + 5), .ref am_SB, .int (xs i11), .int (xs i9), .int (xs i7), .int (xs i5), .ref 0], (mk B), B.kc, B.kn)) rfl ?_
  obtain ⟨i13, h14, hr⟩ := bd_some hr
  refine x_sld rfl rfl h14 ?_
  refine x_ldan rfl rfl rfl ((rg_out (W := B)).lt (i := 0) (show 0 < 1 by decide)) ?_
  obtain ⟨⟨v16, B17⟩, h15, hr⟩ := bd_some hr
  refine x_cW (m_263 h15) rfl rfl rfl rfl rfl (by omega) ?_
  refine x_b 1 (S2 := (269, [some (.ref am_SB), some (.ref 0), some (.ref 29), some (.ref 46), some (.int x4), some (.int v16), none], [], (mk B17), B17.kc, B17.kn)) rfl ?_
  refine x_ldan rfl rfl rfl ((rg_md (W := B17)).lt (i := 0) (show 0 < 17 by decide)) ?_
  refine x_ldsn rfl rfl rfl ?_
  refine x_b 3 (S2 := (275, [some (.ref am_SB), some (.ref 0), some (.ref 29), some (.ref 46), some (.int x4), some (.int v16), none], [.int (x4 + 1), .ref am_SB, .ref 29], (mk B17), B17.kc, B17.kn)) rfl ?_
  obtain ⟨i18, h19, hr⟩ := bd_some hr
  refine x_sld rfl rfl h19 ?_
  refine x_ldsn rfl rfl rfl ?_
  refine x_b 3 (S2 := (281, [some (.ref am_SB), some (.ref 0), some (.ref 29), some (.ref 46), some (.int x4), some (.int v16), none], [.int (x4 + 2), .ref am_SB, .int (xs i18), .ref 29], (mk B17), B17.kc, B17.kn)) rfl ?_
  obtain ⟨i20, h21, hr⟩ := bd_some hr
  refine x_sld rfl rfl h21 ?_
  refine x_ldsn rfl rfl rfl ?_
  refine x_b 3 (S2 := (287, [some (.ref am_SB), some (.ref 0), some (.ref 29), some (.ref 46), some (.int x4), some (.int v16), none], [.int (x4 + 3), .ref am_SB, .int (xs i20), .int (xs i18), .ref 29], (mk B17), B17.kc, B17.kn)) rfl ?_
  obtain ⟨i22, h23, hr⟩ := bd_some hr
  refine x_sld rfl rfl h23 ?_
  refine x_ldsn rfl rfl rfl ?_
  refine x_b 3 (S2 := (293, [some (.ref am_SB), some (.ref 0), some (.ref 29), some (.ref 46), some (.int x4), some (.int v16), none], [.int (x4 + 4), .ref am_SB, .int (xs i22), .int (xs i20), .int (xs i18), .ref 29], (mk B17), B17.kc, B17.kn)) rfl ?_
  obtain ⟨i24, h25, hr⟩ := bd_some hr
  refine x_sld rfl rfl h25 ?_
  refine x_ldsn rfl rfl rfl ?_
  refine x_b 3 (S2 := (299, [some (.ref am_SB), some (.ref 0), some (.ref 29), some (.ref 46), some (.int x4), some (.int v16), none], [.int (x4 + 5), .ref am_SB, .int (xs i24), .int (xs i22), .int (xs i20), .int (xs i18), .ref 29], (mk B17), B17.kc, B17.kn)) rfl ?_
  obtain ⟨i26, h27, hr⟩ := bd_some hr
  refine x_sld rfl rfl h27 ?_
  obtain ⟨⟨v30, o29⟩, h28, hr⟩ := bd_some hr
  obtain ⟨B31, h32, hr⟩ := bd_some hr
  refine x_cW (wc_md (fun H hb hh hH => m_139 hb hh h28) h32) rfl rfl rfl rfl (am_recv_v ((rg_md (W := B17)).lt (i := 0) (show 0 < 17 by decide)) ((rg_md (W := B17)).at (i := 0) rfl) rfl) (by omega) ?_
  refine x_b 1 (S2 := (305, [some (.ref am_SB), some (.ref 0), some (.ref 29), some (.ref 46), some (.int x4), some (.int v16), some (.int v30)], [], (mk B31), B31.kc, B31.kn)) rfl ?_
  refine x_ldan rfl rfl rfl ((rg_md (W := B31)).lt (i := 0) (show 0 < 17 by decide)) ?_
  obtain ⟨v34, h33, hr⟩ := bd_some hr
  refine x_cW (RnW.of0 (m_133 (rg_md (W := B31)) h33) ⟨rfl, rfl⟩) rfl rfl rfl rfl (am_recv_v ((rg_md (W := B31)).lt (i := 0) (show 0 < 17 by decide)) ((rg_md (W := B31)).at (i := 0) rfl) rfl) (by omega) ?_
  refine x_b 1 (S2 := (311, [some (.ref am_SB), some (.ref 0), some (.ref 29), some (.ref 46), some (.int x4), some (.int v16), some (.int v30)], [.int v16, .int v34], (mk B31), B31.kc, B31.kn)) rfl ?_
  rcases ite_some hr with ⟨h35, hr⟩ | ⟨h35, hr⟩
  · refine x_ct rfl rfl (decide_eq_true h35) ?_
    refine x_b 1 (S2 := (318, [some (.ref am_SB), some (.ref 0), some (.ref 29), some (.ref 46), some (.int x4), some (.int v16), some (.int v30)], [.int v16], (mk B31), B31.kc, B31.kn)) rfl ?_
    rcases ite_some hr with ⟨h36, hr⟩ | ⟨h36, hr⟩
    · refine x_zt rfl rfl (decide_eq_true h36) ?_
      refine x_fg (Lq.s (Lq.s (Lq.s (Lq.s (Lq.s (Lq.n (Lq.n Lq.nil))))))) ?_
      exact j_299_23_j333 hd hr ka kx kr
    · refine x_zf rfl rfl (decide_eq_false h36) ?_
      refine x_ldan rfl rfl rfl ((rg_out (W := B31)).lt (i := 0) (show 0 < 1 by decide)) ?_
      refine x_b 1 (S2 := (323, [some (.ref am_SB), some (.ref 0), some (.ref 29), some (.ref 46), some (.int x4), some (.int v16), some (.int v30)], [.int 0, .ref 46], (mk B31), B31.kc, B31.kn)) rfl ?_
      obtain ⟨i37, h38, hr⟩ := bd_some hr
      refine x_lald rfl rfl ((rg_out (W := B31)).lt (i := 0) (show 0 < 1 by decide)) ((rg_out (W := B31)).at (i := 0) rfl) h38 ?_
      refine x_b 3 (S2 := (328, [some (.ref am_SB), some (.ref 0), some (.ref 29), some (.ref 46), some (.int x4), some (.int v16), some (.int v30)], [.int (lg_cmp (B31.out i37) v30.toInt64)], (mk B31), B31.kc, B31.kn)) rfl ?_
      rcases ite_some hr with ⟨h39, hr⟩ | ⟨h39, hr⟩
      · refine x_zt rfl rfl (decide_eq_true h39) ?_
        refine x_fg (Lq.s (Lq.s (Lq.s (Lq.s (Lq.s (Lq.n (Lq.n Lq.nil))))))) ?_
        exact j_299_23_j333 hd hr ka kx kr
      · refine x_zf rfl rfl (decide_eq_false h39) ?_
        refine x_b 1 (S2 := (332, [some (.ref am_SB), some (.ref 0), some (.ref 29), some (.ref 46), some (.int x4), some (.int v16), some (.int v30)], [.int 0], (mk B31), B31.kc, B31.kn)) rfl ?_
        rw [kr _ (Option.some.inj hr).symm]
        exact x_ret rfl rfl (am_ret_z (by decide))
  · refine x_cf rfl rfl (decide_eq_false h35) ?_
    refine x_b 1 (S2 := (315, [some (.ref am_SB), some (.ref 0), some (.ref 29), some (.ref 46), some (.int x4), some (.int v16), some (.int v30)], [.int 0], (mk B31), B31.kc, B31.kn)) rfl ?_
    rw [kr _ (Option.some.inj hr).symm]
    exact x_ret rfl rfl (am_ret_z (by decide))
def J_299_23_j389 (L : Nat) (xs : Nat → Int32) (B : Wd) (x4 : Int32) : Option ((Int32 × Wd) ⊕ (Wd) ⊕ (Int32 × Wd)) :=
  J_299_23_j2564 L xs B x4
set_option maxRecDepth 200000 in
theorem j_299_23_j389 {d : Nat} (hd : 11 ≤ d) {L : Nat} {xs : Nat → Int32} {res : ARe} {B : Wd} {x4 : Int32} {o : (Int32 × Wd) ⊕ (Wd) ⊕ (Int32 × Wd)} (hr : J_299_23_j389 L xs B x4 = some o) (ka : ∀ s, o = .inl s → Ex d am_M299 (some (L, xs)) (P_299_23 L xs s) res) (kx : ∀ s, o = .inr (.inl s) → Ex d am_M299 (some (L, xs)) (PX_299_23 L xs s) res) (kr : ∀ r, o = .inr (.inr r) → res = (.inl (some (.int r.1)), mk r.2, Wd.kc r.2, Wd.kn r.2)) : Ex d am_M299 (some (L, xs)) (389, [some (.ref am_SB), some (.ref 0), some (.ref 29), some (.ref 46), some (.int x4), none, none], [], (mk B), B.kc, B.kn) res := by
  delta J_299_23_j389 at hr
  refine x_b 1 (S2 := (2564, [some (.ref am_SB), some (.ref 0), some (.ref 29), some (.ref 46), some (.int x4), none, none], [], (mk B), B.kc, B.kn)) rfl ?_
  refine x_fg (Lq.s (Lq.s (Lq.s (Lq.s (Lq.s (Lq.s (Lq.s Lq.nil))))))) ?_
  exact j_299_23_j2564 hd hr ka kx kr
def J_299_23_j336 (L : Nat) (xs : Nat → Int32) (B : Wd) (x4 : Int32) : Option ((Int32 × Wd) ⊕ (Wd) ⊕ (Int32 × Wd)) :=
  (ix (x4 + 1) L).bind fun i43 =>
  (F_264 B (xs i43)).bind fun (v46, B47) =>
  (ix (x4 + 1) L).bind fun i48 =>
  (F_140 B47.md (xs i48)).bind fun (v52, o51) =>
  (some (B47.w_md o51)).bind fun B53 =>
  (F_133 B53.md).bind fun v56 =>
  if v56 = v46 then
    if ¬ v46 = 0 then
      J_299_23_j389 L xs B53 x4
    else
      (ix 0 1).bind fun i59 =>
      if (lg_cmp (B53.out i59) v52.toInt64) = 0 then
        J_299_23_j389 L xs B53 x4
      else
        some (.inr (.inr (0, B53)))
  else
    some (.inr (.inr (0, B53)))
set_option maxRecDepth 200000 in
theorem j_299_23_j336 {d : Nat} (hd : 11 ≤ d) {L : Nat} {xs : Nat → Int32} {res : ARe} {B : Wd} {x4 : Int32} {o : (Int32 × Wd) ⊕ (Wd) ⊕ (Int32 × Wd)} (hr : J_299_23_j336 L xs B x4 = some o) (ka : ∀ s, o = .inl s → Ex d am_M299 (some (L, xs)) (P_299_23 L xs s) res) (kx : ∀ s, o = .inr (.inl s) → Ex d am_M299 (some (L, xs)) (PX_299_23 L xs s) res) (kr : ∀ r, o = .inr (.inr r) → res = (.inl (some (.int r.1)), mk r.2, Wd.kc r.2, Wd.kn r.2)) : Ex d am_M299 (some (L, xs)) (336, [some (.ref am_SB), some (.ref 0), some (.ref 29), some (.ref 46), some (.int x4), none, none], [], (mk B), B.kc, B.kn) res := by
  delta J_299_23_j336 at hr
  refine x_ldan rfl rfl rfl ((rg_pp (W := B)).lt (i := 0) (show 0 < 1 by decide)) ?_
  refine x_ldsn rfl rfl rfl ?_
  refine x_b 3 (S2 := (342, [some (.ref am_SB), some (.ref 0), some (.ref 29), some (.ref 46), some (.int x4), none, none], [.int (x4 + 1), .ref am_SB, .ref 0], (mk B), B.kc, B.kn)) rfl ?_
  obtain ⟨i43, h44, hr⟩ := bd_some hr
  refine x_sld rfl rfl h44 ?_
  refine x_ldan rfl rfl rfl ((rg_out (W := B)).lt (i := 0) (show 0 < 1 by decide)) ?_
  obtain ⟨⟨v46, B47⟩, h45, hr⟩ := bd_some hr
  refine x_cW (m_264 h45) rfl rfl rfl rfl rfl (by omega) ?_
  refine x_b 1 (S2 := (349, [some (.ref am_SB), some (.ref 0), some (.ref 29), some (.ref 46), some (.int x4), some (.int v46), none], [], (mk B47), B47.kc, B47.kn)) rfl ?_
  refine x_ldan rfl rfl rfl ((rg_md (W := B47)).lt (i := 0) (show 0 < 17 by decide)) ?_
  refine x_ldsn rfl rfl rfl ?_
  refine x_b 3 (S2 := (355, [some (.ref am_SB), some (.ref 0), some (.ref 29), some (.ref 46), some (.int x4), some (.int v46), none], [.int (x4 + 1), .ref am_SB, .ref 29], (mk B47), B47.kc, B47.kn)) rfl ?_
  obtain ⟨i48, h49, hr⟩ := bd_some hr
  refine x_sld rfl rfl h49 ?_
  obtain ⟨⟨v52, o51⟩, h50, hr⟩ := bd_some hr
  obtain ⟨B53, h54, hr⟩ := bd_some hr
  refine x_cW (wc_md (fun H hb hh hH => m_140 hb hh h50) h54) rfl rfl rfl rfl (am_recv_v ((rg_md (W := B47)).lt (i := 0) (show 0 < 17 by decide)) ((rg_md (W := B47)).at (i := 0) rfl) rfl) (by omega) ?_
  refine x_b 1 (S2 := (361, [some (.ref am_SB), some (.ref 0), some (.ref 29), some (.ref 46), some (.int x4), some (.int v46), some (.int v52)], [], (mk B53), B53.kc, B53.kn)) rfl ?_
  refine x_ldan rfl rfl rfl ((rg_md (W := B53)).lt (i := 0) (show 0 < 17 by decide)) ?_
  obtain ⟨v56, h55, hr⟩ := bd_some hr
  refine x_cW (RnW.of0 (m_133 (rg_md (W := B53)) h55) ⟨rfl, rfl⟩) rfl rfl rfl rfl (am_recv_v ((rg_md (W := B53)).lt (i := 0) (show 0 < 17 by decide)) ((rg_md (W := B53)).at (i := 0) rfl) rfl) (by omega) ?_
  refine x_b 1 (S2 := (367, [some (.ref am_SB), some (.ref 0), some (.ref 29), some (.ref 46), some (.int x4), some (.int v46), some (.int v52)], [.int v46, .int v56], (mk B53), B53.kc, B53.kn)) rfl ?_
  rcases ite_some hr with ⟨h57, hr⟩ | ⟨h57, hr⟩
  · refine x_ct rfl rfl (decide_eq_true h57) ?_
    refine x_b 1 (S2 := (374, [some (.ref am_SB), some (.ref 0), some (.ref 29), some (.ref 46), some (.int x4), some (.int v46), some (.int v52)], [.int v46], (mk B53), B53.kc, B53.kn)) rfl ?_
    rcases ite_some hr with ⟨h58, hr⟩ | ⟨h58, hr⟩
    · refine x_zt rfl rfl (decide_eq_true h58) ?_
      refine x_fg (Lq.s (Lq.s (Lq.s (Lq.s (Lq.s (Lq.n (Lq.n Lq.nil))))))) ?_
      exact j_299_23_j389 hd hr ka kx kr
    · refine x_zf rfl rfl (decide_eq_false h58) ?_
      refine x_ldan rfl rfl rfl ((rg_out (W := B53)).lt (i := 0) (show 0 < 1 by decide)) ?_
      refine x_b 1 (S2 := (379, [some (.ref am_SB), some (.ref 0), some (.ref 29), some (.ref 46), some (.int x4), some (.int v46), some (.int v52)], [.int 0, .ref 46], (mk B53), B53.kc, B53.kn)) rfl ?_
      obtain ⟨i59, h60, hr⟩ := bd_some hr
      refine x_lald rfl rfl ((rg_out (W := B53)).lt (i := 0) (show 0 < 1 by decide)) ((rg_out (W := B53)).at (i := 0) rfl) h60 ?_
      refine x_b 3 (S2 := (384, [some (.ref am_SB), some (.ref 0), some (.ref 29), some (.ref 46), some (.int x4), some (.int v46), some (.int v52)], [.int (lg_cmp (B53.out i59) v52.toInt64)], (mk B53), B53.kc, B53.kn)) rfl ?_
      rcases ite_some hr with ⟨h61, hr⟩ | ⟨h61, hr⟩
      · refine x_zt rfl rfl (decide_eq_true h61) ?_
        refine x_fg (Lq.s (Lq.s (Lq.s (Lq.s (Lq.s (Lq.n (Lq.n Lq.nil))))))) ?_
        exact j_299_23_j389 hd hr ka kx kr
      · refine x_zf rfl rfl (decide_eq_false h61) ?_
        refine x_b 1 (S2 := (388, [some (.ref am_SB), some (.ref 0), some (.ref 29), some (.ref 46), some (.int x4), some (.int v46), some (.int v52)], [.int 0], (mk B53), B53.kc, B53.kn)) rfl ?_
        rw [kr _ (Option.some.inj hr).symm]
        exact x_ret rfl rfl (am_ret_z (by decide))
  · refine x_cf rfl rfl (decide_eq_false h57) ?_
    refine x_b 1 (S2 := (371, [some (.ref am_SB), some (.ref 0), some (.ref 29), some (.ref 46), some (.int x4), some (.int v46), some (.int v52)], [.int 0], (mk B53), B53.kc, B53.kn)) rfl ?_
    rw [kr _ (Option.some.inj hr).symm]
    exact x_ret rfl rfl (am_ret_z (by decide))
def J_299_23_j392 (L : Nat) (xs : Nat → Int32) (B : Wd) (x4 : Int32) : Option ((Int32 × Wd) ⊕ (Wd) ⊕ (Int32 × Wd)) :=
  (F_82 B).bind fun (v66, B67) =>
  (F_162 B67.md).bind fun (v70, o69) =>
  (some (B67.w_md o69)).bind fun B71 =>
  if v66 = v70 then
    J_299_23_j2564 L xs B71 x4
  else
    some (.inr (.inr (0, B71)))
set_option maxRecDepth 200000 in
theorem j_299_23_j392 {d : Nat} (hd : 11 ≤ d) {L : Nat} {xs : Nat → Int32} {res : ARe} {B : Wd} {x4 : Int32} {o : (Int32 × Wd) ⊕ (Wd) ⊕ (Int32 × Wd)} (hr : J_299_23_j392 L xs B x4 = some o) (ka : ∀ s, o = .inl s → Ex d am_M299 (some (L, xs)) (P_299_23 L xs s) res) (kx : ∀ s, o = .inr (.inl s) → Ex d am_M299 (some (L, xs)) (PX_299_23 L xs s) res) (kr : ∀ r, o = .inr (.inr r) → res = (.inl (some (.int r.1)), mk r.2, Wd.kc r.2, Wd.kn r.2)) : Ex d am_M299 (some (L, xs)) (392, [some (.ref am_SB), some (.ref 0), some (.ref 29), some (.ref 46), some (.int x4), none, none], [], (mk B), B.kc, B.kn) res := by
  delta J_299_23_j392 at hr
  refine x_ldan rfl rfl rfl ((rg_pp (W := B)).lt (i := 0) (show 0 < 1 by decide)) ?_
  obtain ⟨⟨v66, B67⟩, h65, hr⟩ := bd_some hr
  refine x_cW (m_82 h65) rfl rfl rfl rfl (am_recv_v ((rg_pp (W := B)).lt (i := 0) (show 0 < 1 by decide)) ((rg_pp (W := B)).at (i := 0) rfl) rfl) (by omega) ?_
  refine x_ldan rfl rfl rfl ((rg_md (W := B67)).lt (i := 0) (show 0 < 17 by decide)) ?_
  obtain ⟨⟨v70, o69⟩, h68, hr⟩ := bd_some hr
  obtain ⟨B71, h72, hr⟩ := bd_some hr
  refine x_cW (wc_md (fun H hb hh hH => m_162 hb hh h68) h72) rfl rfl rfl rfl (am_recv_v ((rg_md (W := B67)).lt (i := 0) (show 0 < 17 by decide)) ((rg_md (W := B67)).at (i := 0) rfl) rfl) (by omega) ?_
  rcases ite_some hr with ⟨h73, hr⟩ | ⟨h73, hr⟩
  · refine x_ct rfl rfl (decide_eq_true h73) ?_
    refine x_fg (Lq.s (Lq.s (Lq.s (Lq.s (Lq.s (Lq.s (Lq.s Lq.nil))))))) ?_
    exact j_299_23_j2564 hd hr ka kx kr
  · refine x_cf rfl rfl (decide_eq_false h73) ?_
    refine x_b 1 (S2 := (404, [some (.ref am_SB), some (.ref 0), some (.ref 29), some (.ref 46), some (.int x4), none, none], [.int 0], (mk B71), B71.kc, B71.kn)) rfl ?_
    rw [kr _ (Option.some.inj hr).symm]
    exact x_ret rfl rfl (am_ret_z (by decide))
def J_299_23_j446 (L : Nat) (xs : Nat → Int32) (B : Wd) (x4 : Int32) : Option ((Int32 × Wd) ⊕ (Wd) ⊕ (Int32 × Wd)) :=
  J_299_23_j2564 L xs B x4
set_option maxRecDepth 200000 in
theorem j_299_23_j446 {d : Nat} (hd : 11 ≤ d) {L : Nat} {xs : Nat → Int32} {res : ARe} {B : Wd} {x4 : Int32} {o : (Int32 × Wd) ⊕ (Wd) ⊕ (Int32 × Wd)} (hr : J_299_23_j446 L xs B x4 = some o) (ka : ∀ s, o = .inl s → Ex d am_M299 (some (L, xs)) (P_299_23 L xs s) res) (kx : ∀ s, o = .inr (.inl s) → Ex d am_M299 (some (L, xs)) (PX_299_23 L xs s) res) (kr : ∀ r, o = .inr (.inr r) → res = (.inl (some (.int r.1)), mk r.2, Wd.kc r.2, Wd.kn r.2)) : Ex d am_M299 (some (L, xs)) (446, [some (.ref am_SB), some (.ref 0), some (.ref 29), some (.ref 46), some (.int x4), none, none], [], (mk B), B.kc, B.kn) res := by
  delta J_299_23_j446 at hr
  refine x_b 1 (S2 := (2564, [some (.ref am_SB), some (.ref 0), some (.ref 29), some (.ref 46), some (.int x4), none, none], [], (mk B), B.kc, B.kn)) rfl ?_
  refine x_fg (Lq.s (Lq.s (Lq.s (Lq.s (Lq.s (Lq.s (Lq.s Lq.nil))))))) ?_
  exact j_299_23_j2564 hd hr ka kx kr
def J_299_23_j405 (L : Nat) (xs : Nat → Int32) (B : Wd) (x4 : Int32) : Option ((Int32 × Wd) ⊕ (Wd) ⊕ (Int32 × Wd)) :=
  (F_265 B).bind fun (v77, B78) =>
  (F_165 B78.md).bind fun (v81, o80) =>
  (some (B78.w_md o80)).bind fun B82 =>
  (F_133 B82.md).bind fun v85 =>
  if v85 = v77 then
    if ¬ v77 = 0 then
      J_299_23_j446 L xs B82 x4
    else
      (ix 0 1).bind fun i88 =>
      if (lg_cmp (B82.out i88) v81.toInt64) = 0 then
        J_299_23_j446 L xs B82 x4
      else
        some (.inr (.inr (0, B82)))
  else
    some (.inr (.inr (0, B82)))
set_option maxRecDepth 200000 in
theorem j_299_23_j405 {d : Nat} (hd : 11 ≤ d) {L : Nat} {xs : Nat → Int32} {res : ARe} {B : Wd} {x4 : Int32} {o : (Int32 × Wd) ⊕ (Wd) ⊕ (Int32 × Wd)} (hr : J_299_23_j405 L xs B x4 = some o) (ka : ∀ s, o = .inl s → Ex d am_M299 (some (L, xs)) (P_299_23 L xs s) res) (kx : ∀ s, o = .inr (.inl s) → Ex d am_M299 (some (L, xs)) (PX_299_23 L xs s) res) (kr : ∀ r, o = .inr (.inr r) → res = (.inl (some (.int r.1)), mk r.2, Wd.kc r.2, Wd.kn r.2)) : Ex d am_M299 (some (L, xs)) (405, [some (.ref am_SB), some (.ref 0), some (.ref 29), some (.ref 46), some (.int x4), none, none], [], (mk B), B.kc, B.kn) res := by
  delta J_299_23_j405 at hr
  refine x_ldan rfl rfl rfl ((rg_pp (W := B)).lt (i := 0) (show 0 < 1 by decide)) ?_
  refine x_ldan rfl rfl rfl ((rg_out (W := B)).lt (i := 0) (show 0 < 1 by decide)) ?_
  obtain ⟨⟨v77, B78⟩, h76, hr⟩ := bd_some hr
  refine x_cW (m_265 h76) rfl rfl rfl rfl rfl (by omega) ?_
  refine x_b 1 (S2 := (412, [some (.ref am_SB), some (.ref 0), some (.ref 29), some (.ref 46), some (.int x4), some (.int v77), none], [], (mk B78), B78.kc, B78.kn)) rfl ?_
  refine x_ldan rfl rfl rfl ((rg_md (W := B78)).lt (i := 0) (show 0 < 17 by decide)) ?_
  obtain ⟨⟨v81, o80⟩, h79, hr⟩ := bd_some hr
  obtain ⟨B82, h83, hr⟩ := bd_some hr
  refine x_cW (wc_md (fun H hb hh hH => m_165 hb hh h79) h83) rfl rfl rfl rfl (am_recv_v ((rg_md (W := B78)).lt (i := 0) (show 0 < 17 by decide)) ((rg_md (W := B78)).at (i := 0) rfl) rfl) (by omega) ?_
  refine x_b 1 (S2 := (418, [some (.ref am_SB), some (.ref 0), some (.ref 29), some (.ref 46), some (.int x4), some (.int v77), some (.int v81)], [], (mk B82), B82.kc, B82.kn)) rfl ?_
  refine x_ldan rfl rfl rfl ((rg_md (W := B82)).lt (i := 0) (show 0 < 17 by decide)) ?_
  obtain ⟨v85, h84, hr⟩ := bd_some hr
  refine x_cW (RnW.of0 (m_133 (rg_md (W := B82)) h84) ⟨rfl, rfl⟩) rfl rfl rfl rfl (am_recv_v ((rg_md (W := B82)).lt (i := 0) (show 0 < 17 by decide)) ((rg_md (W := B82)).at (i := 0) rfl) rfl) (by omega) ?_
  refine x_b 1 (S2 := (424, [some (.ref am_SB), some (.ref 0), some (.ref 29), some (.ref 46), some (.int x4), some (.int v77), some (.int v81)], [.int v77, .int v85], (mk B82), B82.kc, B82.kn)) rfl ?_
  rcases ite_some hr with ⟨h86, hr⟩ | ⟨h86, hr⟩
  · refine x_ct rfl rfl (decide_eq_true h86) ?_
    refine x_b 1 (S2 := (431, [some (.ref am_SB), some (.ref 0), some (.ref 29), some (.ref 46), some (.int x4), some (.int v77), some (.int v81)], [.int v77], (mk B82), B82.kc, B82.kn)) rfl ?_
    rcases ite_some hr with ⟨h87, hr⟩ | ⟨h87, hr⟩
    · refine x_zt rfl rfl (decide_eq_true h87) ?_
      refine x_fg (Lq.s (Lq.s (Lq.s (Lq.s (Lq.s (Lq.n (Lq.n Lq.nil))))))) ?_
      exact j_299_23_j446 hd hr ka kx kr
    · refine x_zf rfl rfl (decide_eq_false h87) ?_
      refine x_ldan rfl rfl rfl ((rg_out (W := B82)).lt (i := 0) (show 0 < 1 by decide)) ?_
      refine x_b 1 (S2 := (436, [some (.ref am_SB), some (.ref 0), some (.ref 29), some (.ref 46), some (.int x4), some (.int v77), some (.int v81)], [.int 0, .ref 46], (mk B82), B82.kc, B82.kn)) rfl ?_
      obtain ⟨i88, h89, hr⟩ := bd_some hr
      refine x_lald rfl rfl ((rg_out (W := B82)).lt (i := 0) (show 0 < 1 by decide)) ((rg_out (W := B82)).at (i := 0) rfl) h89 ?_
      refine x_b 3 (S2 := (441, [some (.ref am_SB), some (.ref 0), some (.ref 29), some (.ref 46), some (.int x4), some (.int v77), some (.int v81)], [.int (lg_cmp (B82.out i88) v81.toInt64)], (mk B82), B82.kc, B82.kn)) rfl ?_
      rcases ite_some hr with ⟨h90, hr⟩ | ⟨h90, hr⟩
      · refine x_zt rfl rfl (decide_eq_true h90) ?_
        refine x_fg (Lq.s (Lq.s (Lq.s (Lq.s (Lq.s (Lq.n (Lq.n Lq.nil))))))) ?_
        exact j_299_23_j446 hd hr ka kx kr
      · refine x_zf rfl rfl (decide_eq_false h90) ?_
        refine x_b 1 (S2 := (445, [some (.ref am_SB), some (.ref 0), some (.ref 29), some (.ref 46), some (.int x4), some (.int v77), some (.int v81)], [.int 0], (mk B82), B82.kc, B82.kn)) rfl ?_
        rw [kr _ (Option.some.inj hr).symm]
        exact x_ret rfl rfl (am_ret_z (by decide))
  · refine x_cf rfl rfl (decide_eq_false h86) ?_
    refine x_b 1 (S2 := (428, [some (.ref am_SB), some (.ref 0), some (.ref 29), some (.ref 46), some (.int x4), some (.int v77), some (.int v81)], [.int 0], (mk B82), B82.kc, B82.kn)) rfl ?_
    rw [kr _ (Option.some.inj hr).symm]
    exact x_ret rfl rfl (am_ret_z (by decide))
def J_299_23_j514 (L : Nat) (xs : Nat → Int32) (B : Wd) (x4 : Int32) : Option ((Int32 × Wd) ⊕ (Wd) ⊕ (Int32 × Wd)) :=
  J_299_23_j2564 L xs B x4
set_option maxRecDepth 200000 in
theorem j_299_23_j514 {d : Nat} (hd : 11 ≤ d) {L : Nat} {xs : Nat → Int32} {res : ARe} {B : Wd} {x4 : Int32} {o : (Int32 × Wd) ⊕ (Wd) ⊕ (Int32 × Wd)} (hr : J_299_23_j514 L xs B x4 = some o) (ka : ∀ s, o = .inl s → Ex d am_M299 (some (L, xs)) (P_299_23 L xs s) res) (kx : ∀ s, o = .inr (.inl s) → Ex d am_M299 (some (L, xs)) (PX_299_23 L xs s) res) (kr : ∀ r, o = .inr (.inr r) → res = (.inl (some (.int r.1)), mk r.2, Wd.kc r.2, Wd.kn r.2)) : Ex d am_M299 (some (L, xs)) (514, [some (.ref am_SB), some (.ref 0), some (.ref 29), some (.ref 46), some (.int x4), none, none], [], (mk B), B.kc, B.kn) res := by
  delta J_299_23_j514 at hr
  refine x_b 1 (S2 := (2564, [some (.ref am_SB), some (.ref 0), some (.ref 29), some (.ref 46), some (.int x4), none, none], [], (mk B), B.kc, B.kn)) rfl ?_
  refine x_fg (Lq.s (Lq.s (Lq.s (Lq.s (Lq.s (Lq.s (Lq.s Lq.nil))))))) ?_
  exact j_299_23_j2564 hd hr ka kx kr
def J_299_23_j449 (L : Nat) (xs : Nat → Int32) (B : Wd) (x4 : Int32) : Option ((Int32 × Wd) ⊕ (Wd) ⊕ (Int32 × Wd)) :=
  (ix (x4 + 1) L).bind fun i94 =>
  (ix (x4 + 2) L).bind fun i96 =>
  (F_266 B (xs i94) (xs i96)).bind fun (v99, B100) =>
  (ix (x4 + 1) L).bind fun i101 =>
  (ix (x4 + 2) L).bind fun i103 =>
  (F_185 B100.md (xs i101) (xs i103)).bind fun (v107, o106) =>
  (some (B100.w_md o106)).bind fun B108 =>
  (F_133 B108.md).bind fun v111 =>
  if v111 = v99 then
    if ¬ v99 = 0 then
      J_299_23_j514 L xs B108 x4
    else
      (ix 0 1).bind fun i114 =>
      if (lg_cmp (B108.out i114) v107.toInt64) = 0 then
        J_299_23_j514 L xs B108 x4
      else
        some (.inr (.inr (0, B108)))
  else
    some (.inr (.inr (0, B108)))
set_option maxRecDepth 200000 in
theorem j_299_23_j449 {d : Nat} (hd : 11 ≤ d) {L : Nat} {xs : Nat → Int32} {res : ARe} {B : Wd} {x4 : Int32} {o : (Int32 × Wd) ⊕ (Wd) ⊕ (Int32 × Wd)} (hr : J_299_23_j449 L xs B x4 = some o) (ka : ∀ s, o = .inl s → Ex d am_M299 (some (L, xs)) (P_299_23 L xs s) res) (kx : ∀ s, o = .inr (.inl s) → Ex d am_M299 (some (L, xs)) (PX_299_23 L xs s) res) (kr : ∀ r, o = .inr (.inr r) → res = (.inl (some (.int r.1)), mk r.2, Wd.kc r.2, Wd.kn r.2)) : Ex d am_M299 (some (L, xs)) (449, [some (.ref am_SB), some (.ref 0), some (.ref 29), some (.ref 46), some (.int x4), none, none], [], (mk B), B.kc, B.kn) res := by
  delta J_299_23_j449 at hr
  refine x_ldan rfl rfl rfl ((rg_pp (W := B)).lt (i := 0) (show 0 < 1 by decide)) ?_
  refine x_ldsn rfl rfl rfl ?_
  refine x_b 3 (S2 := (455, [some (.ref am_SB), some (.ref 0), some (.ref 29), some (.ref 46), some (.int x4), none, none], [.int (x4 + 1), .ref am_SB, .ref 0], (mk B), B.kc, B.kn)) rfl ?_
  obtain ⟨i94, h95, hr⟩ := bd_some hr
  refine x_sld rfl rfl h95 ?_
  refine x_ldsn rfl rfl rfl ?_
  refine x_b 3 (S2 := (461, [some (.ref am_SB), some (.ref 0), some (.ref 29), some (.ref 46), some (.int x4), none, none], [.int (x4 + 2), .ref am_SB, .int (xs i94), .ref 0], (mk B), B.kc, B.kn)) rfl ?_
  obtain ⟨i96, h97, hr⟩ := bd_some hr
  refine x_sld rfl rfl h97 ?_
  refine x_ldan rfl rfl rfl ((rg_out (W := B)).lt (i := 0) (show 0 < 1 by decide)) ?_
  obtain ⟨⟨v99, B100⟩, h98, hr⟩ := bd_some hr
  refine x_cW (m_266 h98) rfl rfl rfl rfl rfl (by omega) ?_
  refine x_b 1 (S2 := (468, [some (.ref am_SB), some (.ref 0), some (.ref 29), some (.ref 46), some (.int x4), some (.int v99), none], [], (mk B100), B100.kc, B100.kn)) rfl ?_
  refine x_ldan rfl rfl rfl ((rg_md (W := B100)).lt (i := 0) (show 0 < 17 by decide)) ?_
  refine x_ldsn rfl rfl rfl ?_
  refine x_b 3 (S2 := (474, [some (.ref am_SB), some (.ref 0), some (.ref 29), some (.ref 46), some (.int x4), some (.int v99), none], [.int (x4 + 1), .ref am_SB, .ref 29], (mk B100), B100.kc, B100.kn)) rfl ?_
  obtain ⟨i101, h102, hr⟩ := bd_some hr
  refine x_sld rfl rfl h102 ?_
  refine x_ldsn rfl rfl rfl ?_
  refine x_b 3 (S2 := (480, [some (.ref am_SB), some (.ref 0), some (.ref 29), some (.ref 46), some (.int x4), some (.int v99), none], [.int (x4 + 2), .ref am_SB, .int (xs i101), .ref 29], (mk B100), B100.kc, B100.kn)) rfl ?_
  obtain ⟨i103, h104, hr⟩ := bd_some hr
  refine x_sld rfl rfl h104 ?_
  obtain ⟨⟨v107, o106⟩, h105, hr⟩ := bd_some hr
  obtain ⟨B108, h109, hr⟩ := bd_some hr
  refine x_cW (wc_md (fun H hb hh hH => m_185 hb hh h105) h109) rfl rfl rfl rfl (am_recv_v ((rg_md (W := B100)).lt (i := 0) (show 0 < 17 by decide)) ((rg_md (W := B100)).at (i := 0) rfl) rfl) (by omega) ?_
  refine x_b 1 (S2 := (486, [some (.ref am_SB), some (.ref 0), some (.ref 29), some (.ref 46), some (.int x4), some (.int v99), some (.int v107)], [], (mk B108), B108.kc, B108.kn)) rfl ?_
  refine x_ldan rfl rfl rfl ((rg_md (W := B108)).lt (i := 0) (show 0 < 17 by decide)) ?_
  obtain ⟨v111, h110, hr⟩ := bd_some hr
  refine x_cW (RnW.of0 (m_133 (rg_md (W := B108)) h110) ⟨rfl, rfl⟩) rfl rfl rfl rfl (am_recv_v ((rg_md (W := B108)).lt (i := 0) (show 0 < 17 by decide)) ((rg_md (W := B108)).at (i := 0) rfl) rfl) (by omega) ?_
  refine x_b 1 (S2 := (492, [some (.ref am_SB), some (.ref 0), some (.ref 29), some (.ref 46), some (.int x4), some (.int v99), some (.int v107)], [.int v99, .int v111], (mk B108), B108.kc, B108.kn)) rfl ?_
  rcases ite_some hr with ⟨h112, hr⟩ | ⟨h112, hr⟩
  · refine x_ct rfl rfl (decide_eq_true h112) ?_
    refine x_b 1 (S2 := (499, [some (.ref am_SB), some (.ref 0), some (.ref 29), some (.ref 46), some (.int x4), some (.int v99), some (.int v107)], [.int v99], (mk B108), B108.kc, B108.kn)) rfl ?_
    rcases ite_some hr with ⟨h113, hr⟩ | ⟨h113, hr⟩
    · refine x_zt rfl rfl (decide_eq_true h113) ?_
      refine x_fg (Lq.s (Lq.s (Lq.s (Lq.s (Lq.s (Lq.n (Lq.n Lq.nil))))))) ?_
      exact j_299_23_j514 hd hr ka kx kr
    · refine x_zf rfl rfl (decide_eq_false h113) ?_
      refine x_ldan rfl rfl rfl ((rg_out (W := B108)).lt (i := 0) (show 0 < 1 by decide)) ?_
      refine x_b 1 (S2 := (504, [some (.ref am_SB), some (.ref 0), some (.ref 29), some (.ref 46), some (.int x4), some (.int v99), some (.int v107)], [.int 0, .ref 46], (mk B108), B108.kc, B108.kn)) rfl ?_
      obtain ⟨i114, h115, hr⟩ := bd_some hr
      refine x_lald rfl rfl ((rg_out (W := B108)).lt (i := 0) (show 0 < 1 by decide)) ((rg_out (W := B108)).at (i := 0) rfl) h115 ?_
      refine x_b 3 (S2 := (509, [some (.ref am_SB), some (.ref 0), some (.ref 29), some (.ref 46), some (.int x4), some (.int v99), some (.int v107)], [.int (lg_cmp (B108.out i114) v107.toInt64)], (mk B108), B108.kc, B108.kn)) rfl ?_
      rcases ite_some hr with ⟨h116, hr⟩ | ⟨h116, hr⟩
      · refine x_zt rfl rfl (decide_eq_true h116) ?_
        refine x_fg (Lq.s (Lq.s (Lq.s (Lq.s (Lq.s (Lq.n (Lq.n Lq.nil))))))) ?_
        exact j_299_23_j514 hd hr ka kx kr
      · refine x_zf rfl rfl (decide_eq_false h116) ?_
        refine x_b 1 (S2 := (513, [some (.ref am_SB), some (.ref 0), some (.ref 29), some (.ref 46), some (.int x4), some (.int v99), some (.int v107)], [.int 0], (mk B108), B108.kc, B108.kn)) rfl ?_
        rw [kr _ (Option.some.inj hr).symm]
        exact x_ret rfl rfl (am_ret_z (by decide))
  · refine x_cf rfl rfl (decide_eq_false h112) ?_
    refine x_b 1 (S2 := (496, [some (.ref am_SB), some (.ref 0), some (.ref 29), some (.ref 46), some (.int x4), some (.int v99), some (.int v107)], [.int 0], (mk B108), B108.kc, B108.kn)) rfl ?_
    rw [kr _ (Option.some.inj hr).symm]
    exact x_ret rfl rfl (am_ret_z (by decide))
def J_299_23_j582 (L : Nat) (xs : Nat → Int32) (B : Wd) (x4 : Int32) : Option ((Int32 × Wd) ⊕ (Wd) ⊕ (Int32 × Wd)) :=
  J_299_23_j2564 L xs B x4
set_option maxRecDepth 200000 in
theorem j_299_23_j582 {d : Nat} (hd : 11 ≤ d) {L : Nat} {xs : Nat → Int32} {res : ARe} {B : Wd} {x4 : Int32} {o : (Int32 × Wd) ⊕ (Wd) ⊕ (Int32 × Wd)} (hr : J_299_23_j582 L xs B x4 = some o) (ka : ∀ s, o = .inl s → Ex d am_M299 (some (L, xs)) (P_299_23 L xs s) res) (kx : ∀ s, o = .inr (.inl s) → Ex d am_M299 (some (L, xs)) (PX_299_23 L xs s) res) (kr : ∀ r, o = .inr (.inr r) → res = (.inl (some (.int r.1)), mk r.2, Wd.kc r.2, Wd.kn r.2)) : Ex d am_M299 (some (L, xs)) (582, [some (.ref am_SB), some (.ref 0), some (.ref 29), some (.ref 46), some (.int x4), none, none], [], (mk B), B.kc, B.kn) res := by
  delta J_299_23_j582 at hr
  refine x_b 1 (S2 := (2564, [some (.ref am_SB), some (.ref 0), some (.ref 29), some (.ref 46), some (.int x4), none, none], [], (mk B), B.kc, B.kn)) rfl ?_
  refine x_fg (Lq.s (Lq.s (Lq.s (Lq.s (Lq.s (Lq.s (Lq.s Lq.nil))))))) ?_
  exact j_299_23_j2564 hd hr ka kx kr
def J_299_23_j517 (L : Nat) (xs : Nat → Int32) (B : Wd) (x4 : Int32) : Option ((Int32 × Wd) ⊕ (Wd) ⊕ (Int32 × Wd)) :=
  (ix (x4 + 1) L).bind fun i120 =>
  (ix (x4 + 2) L).bind fun i122 =>
  (F_267 B (xs i120) (xs i122)).bind fun (v125, B126) =>
  (ix (x4 + 1) L).bind fun i127 =>
  (ix (x4 + 2) L).bind fun i129 =>
  (F_187 B126.md (xs i127) (xs i129)).bind fun (v133, o132) =>
  (some (B126.w_md o132)).bind fun B134 =>
  (F_133 B134.md).bind fun v137 =>
  if v137 = v125 then
    if ¬ v125 = 0 then
      J_299_23_j582 L xs B134 x4
    else
      (ix 0 1).bind fun i140 =>
      if (lg_cmp (B134.out i140) v133.toInt64) = 0 then
        J_299_23_j582 L xs B134 x4
      else
        some (.inr (.inr (0, B134)))
  else
    some (.inr (.inr (0, B134)))
set_option maxRecDepth 200000 in
theorem j_299_23_j517 {d : Nat} (hd : 11 ≤ d) {L : Nat} {xs : Nat → Int32} {res : ARe} {B : Wd} {x4 : Int32} {o : (Int32 × Wd) ⊕ (Wd) ⊕ (Int32 × Wd)} (hr : J_299_23_j517 L xs B x4 = some o) (ka : ∀ s, o = .inl s → Ex d am_M299 (some (L, xs)) (P_299_23 L xs s) res) (kx : ∀ s, o = .inr (.inl s) → Ex d am_M299 (some (L, xs)) (PX_299_23 L xs s) res) (kr : ∀ r, o = .inr (.inr r) → res = (.inl (some (.int r.1)), mk r.2, Wd.kc r.2, Wd.kn r.2)) : Ex d am_M299 (some (L, xs)) (517, [some (.ref am_SB), some (.ref 0), some (.ref 29), some (.ref 46), some (.int x4), none, none], [], (mk B), B.kc, B.kn) res := by
  delta J_299_23_j517 at hr
  refine x_ldan rfl rfl rfl ((rg_pp (W := B)).lt (i := 0) (show 0 < 1 by decide)) ?_
  refine x_ldsn rfl rfl rfl ?_
  refine x_b 3 (S2 := (523, [some (.ref am_SB), some (.ref 0), some (.ref 29), some (.ref 46), some (.int x4), none, none], [.int (x4 + 1), .ref am_SB, .ref 0], (mk B), B.kc, B.kn)) rfl ?_
  obtain ⟨i120, h121, hr⟩ := bd_some hr
  refine x_sld rfl rfl h121 ?_
  refine x_ldsn rfl rfl rfl ?_
  refine x_b 3 (S2 := (529, [some (.ref am_SB), some (.ref 0), some (.ref 29), some (.ref 46), some (.int x4), none, none], [.int (x4 + 2), .ref am_SB, .int (xs i120), .ref 0], (mk B), B.kc, B.kn)) rfl ?_
  obtain ⟨i122, h123, hr⟩ := bd_some hr
  refine x_sld rfl rfl h123 ?_
  refine x_ldan rfl rfl rfl ((rg_out (W := B)).lt (i := 0) (show 0 < 1 by decide)) ?_
  obtain ⟨⟨v125, B126⟩, h124, hr⟩ := bd_some hr
  refine x_cW (m_267 h124) rfl rfl rfl rfl rfl (by omega) ?_
  refine x_b 1 (S2 := (536, [some (.ref am_SB), some (.ref 0), some (.ref 29), some (.ref 46), some (.int x4), some (.int v125), none], [], (mk B126), B126.kc, B126.kn)) rfl ?_
  refine x_ldan rfl rfl rfl ((rg_md (W := B126)).lt (i := 0) (show 0 < 17 by decide)) ?_
  refine x_ldsn rfl rfl rfl ?_
  refine x_b 3 (S2 := (542, [some (.ref am_SB), some (.ref 0), some (.ref 29), some (.ref 46), some (.int x4), some (.int v125), none], [.int (x4 + 1), .ref am_SB, .ref 29], (mk B126), B126.kc, B126.kn)) rfl ?_
  obtain ⟨i127, h128, hr⟩ := bd_some hr
  refine x_sld rfl rfl h128 ?_
  refine x_ldsn rfl rfl rfl ?_
  refine x_b 3 (S2 := (548, [some (.ref am_SB), some (.ref 0), some (.ref 29), some (.ref 46), some (.int x4), some (.int v125), none], [.int (x4 + 2), .ref am_SB, .int (xs i127), .ref 29], (mk B126), B126.kc, B126.kn)) rfl ?_
  obtain ⟨i129, h130, hr⟩ := bd_some hr
  refine x_sld rfl rfl h130 ?_
  obtain ⟨⟨v133, o132⟩, h131, hr⟩ := bd_some hr
  obtain ⟨B134, h135, hr⟩ := bd_some hr
  refine x_cW (wc_md (fun H hb hh hH => m_187 hb hh h131) h135) rfl rfl rfl rfl (am_recv_v ((rg_md (W := B126)).lt (i := 0) (show 0 < 17 by decide)) ((rg_md (W := B126)).at (i := 0) rfl) rfl) (by omega) ?_
  refine x_b 1 (S2 := (554, [some (.ref am_SB), some (.ref 0), some (.ref 29), some (.ref 46), some (.int x4), some (.int v125), some (.int v133)], [], (mk B134), B134.kc, B134.kn)) rfl ?_
  refine x_ldan rfl rfl rfl ((rg_md (W := B134)).lt (i := 0) (show 0 < 17 by decide)) ?_
  obtain ⟨v137, h136, hr⟩ := bd_some hr
  refine x_cW (RnW.of0 (m_133 (rg_md (W := B134)) h136) ⟨rfl, rfl⟩) rfl rfl rfl rfl (am_recv_v ((rg_md (W := B134)).lt (i := 0) (show 0 < 17 by decide)) ((rg_md (W := B134)).at (i := 0) rfl) rfl) (by omega) ?_
  refine x_b 1 (S2 := (560, [some (.ref am_SB), some (.ref 0), some (.ref 29), some (.ref 46), some (.int x4), some (.int v125), some (.int v133)], [.int v125, .int v137], (mk B134), B134.kc, B134.kn)) rfl ?_
  rcases ite_some hr with ⟨h138, hr⟩ | ⟨h138, hr⟩
  · refine x_ct rfl rfl (decide_eq_true h138) ?_
    refine x_b 1 (S2 := (567, [some (.ref am_SB), some (.ref 0), some (.ref 29), some (.ref 46), some (.int x4), some (.int v125), some (.int v133)], [.int v125], (mk B134), B134.kc, B134.kn)) rfl ?_
    rcases ite_some hr with ⟨h139, hr⟩ | ⟨h139, hr⟩
    · refine x_zt rfl rfl (decide_eq_true h139) ?_
      refine x_fg (Lq.s (Lq.s (Lq.s (Lq.s (Lq.s (Lq.n (Lq.n Lq.nil))))))) ?_
      exact j_299_23_j582 hd hr ka kx kr
    · refine x_zf rfl rfl (decide_eq_false h139) ?_
      refine x_ldan rfl rfl rfl ((rg_out (W := B134)).lt (i := 0) (show 0 < 1 by decide)) ?_
      refine x_b 1 (S2 := (572, [some (.ref am_SB), some (.ref 0), some (.ref 29), some (.ref 46), some (.int x4), some (.int v125), some (.int v133)], [.int 0, .ref 46], (mk B134), B134.kc, B134.kn)) rfl ?_
      obtain ⟨i140, h141, hr⟩ := bd_some hr
      refine x_lald rfl rfl ((rg_out (W := B134)).lt (i := 0) (show 0 < 1 by decide)) ((rg_out (W := B134)).at (i := 0) rfl) h141 ?_
      refine x_b 3 (S2 := (577, [some (.ref am_SB), some (.ref 0), some (.ref 29), some (.ref 46), some (.int x4), some (.int v125), some (.int v133)], [.int (lg_cmp (B134.out i140) v133.toInt64)], (mk B134), B134.kc, B134.kn)) rfl ?_
      rcases ite_some hr with ⟨h142, hr⟩ | ⟨h142, hr⟩
      · refine x_zt rfl rfl (decide_eq_true h142) ?_
        refine x_fg (Lq.s (Lq.s (Lq.s (Lq.s (Lq.s (Lq.n (Lq.n Lq.nil))))))) ?_
        exact j_299_23_j582 hd hr ka kx kr
      · refine x_zf rfl rfl (decide_eq_false h142) ?_
        refine x_b 1 (S2 := (581, [some (.ref am_SB), some (.ref 0), some (.ref 29), some (.ref 46), some (.int x4), some (.int v125), some (.int v133)], [.int 0], (mk B134), B134.kc, B134.kn)) rfl ?_
        rw [kr _ (Option.some.inj hr).symm]
        exact x_ret rfl rfl (am_ret_z (by decide))
  · refine x_cf rfl rfl (decide_eq_false h138) ?_
    refine x_b 1 (S2 := (564, [some (.ref am_SB), some (.ref 0), some (.ref 29), some (.ref 46), some (.int x4), some (.int v125), some (.int v133)], [.int 0], (mk B134), B134.kc, B134.kn)) rfl ?_
    rw [kr _ (Option.some.inj hr).symm]
    exact x_ret rfl rfl (am_ret_z (by decide))
def J_299_23_j650 (L : Nat) (xs : Nat → Int32) (B : Wd) (x4 : Int32) : Option ((Int32 × Wd) ⊕ (Wd) ⊕ (Int32 × Wd)) :=
  J_299_23_j2564 L xs B x4
set_option maxRecDepth 200000 in
theorem j_299_23_j650 {d : Nat} (hd : 11 ≤ d) {L : Nat} {xs : Nat → Int32} {res : ARe} {B : Wd} {x4 : Int32} {o : (Int32 × Wd) ⊕ (Wd) ⊕ (Int32 × Wd)} (hr : J_299_23_j650 L xs B x4 = some o) (ka : ∀ s, o = .inl s → Ex d am_M299 (some (L, xs)) (P_299_23 L xs s) res) (kx : ∀ s, o = .inr (.inl s) → Ex d am_M299 (some (L, xs)) (PX_299_23 L xs s) res) (kr : ∀ r, o = .inr (.inr r) → res = (.inl (some (.int r.1)), mk r.2, Wd.kc r.2, Wd.kn r.2)) : Ex d am_M299 (some (L, xs)) (650, [some (.ref am_SB), some (.ref 0), some (.ref 29), some (.ref 46), some (.int x4), none, none], [], (mk B), B.kc, B.kn) res := by
  delta J_299_23_j650 at hr
  refine x_b 1 (S2 := (2564, [some (.ref am_SB), some (.ref 0), some (.ref 29), some (.ref 46), some (.int x4), none, none], [], (mk B), B.kc, B.kn)) rfl ?_
  refine x_fg (Lq.s (Lq.s (Lq.s (Lq.s (Lq.s (Lq.s (Lq.s Lq.nil))))))) ?_
  exact j_299_23_j2564 hd hr ka kx kr
def J_299_23_j585 (L : Nat) (xs : Nat → Int32) (B : Wd) (x4 : Int32) : Option ((Int32 × Wd) ⊕ (Wd) ⊕ (Int32 × Wd)) :=
  (ix (x4 + 1) L).bind fun i146 =>
  (ix (x4 + 2) L).bind fun i148 =>
  (F_268 B (xs i146) (xs i148)).bind fun (v151, B152) =>
  (ix (x4 + 1) L).bind fun i153 =>
  (ix (x4 + 2) L).bind fun i155 =>
  (F_188 B152.md (xs i153) (xs i155)).bind fun (v159, o158) =>
  (some (B152.w_md o158)).bind fun B160 =>
  (F_133 B160.md).bind fun v163 =>
  if v163 = v151 then
    if ¬ v151 = 0 then
      J_299_23_j650 L xs B160 x4
    else
      (ix 0 1).bind fun i166 =>
      if (lg_cmp (B160.out i166) v159.toInt64) = 0 then
        J_299_23_j650 L xs B160 x4
      else
        some (.inr (.inr (0, B160)))
  else
    some (.inr (.inr (0, B160)))
set_option maxRecDepth 200000 in
theorem j_299_23_j585 {d : Nat} (hd : 11 ≤ d) {L : Nat} {xs : Nat → Int32} {res : ARe} {B : Wd} {x4 : Int32} {o : (Int32 × Wd) ⊕ (Wd) ⊕ (Int32 × Wd)} (hr : J_299_23_j585 L xs B x4 = some o) (ka : ∀ s, o = .inl s → Ex d am_M299 (some (L, xs)) (P_299_23 L xs s) res) (kx : ∀ s, o = .inr (.inl s) → Ex d am_M299 (some (L, xs)) (PX_299_23 L xs s) res) (kr : ∀ r, o = .inr (.inr r) → res = (.inl (some (.int r.1)), mk r.2, Wd.kc r.2, Wd.kn r.2)) : Ex d am_M299 (some (L, xs)) (585, [some (.ref am_SB), some (.ref 0), some (.ref 29), some (.ref 46), some (.int x4), none, none], [], (mk B), B.kc, B.kn) res := by
  delta J_299_23_j585 at hr
  refine x_ldan rfl rfl rfl ((rg_pp (W := B)).lt (i := 0) (show 0 < 1 by decide)) ?_
  refine x_ldsn rfl rfl rfl ?_
  refine x_b 3 (S2 := (591, [some (.ref am_SB), some (.ref 0), some (.ref 29), some (.ref 46), some (.int x4), none, none], [.int (x4 + 1), .ref am_SB, .ref 0], (mk B), B.kc, B.kn)) rfl ?_
  obtain ⟨i146, h147, hr⟩ := bd_some hr
  refine x_sld rfl rfl h147 ?_
  refine x_ldsn rfl rfl rfl ?_
  refine x_b 3 (S2 := (597, [some (.ref am_SB), some (.ref 0), some (.ref 29), some (.ref 46), some (.int x4), none, none], [.int (x4 + 2), .ref am_SB, .int (xs i146), .ref 0], (mk B), B.kc, B.kn)) rfl ?_
  obtain ⟨i148, h149, hr⟩ := bd_some hr
  refine x_sld rfl rfl h149 ?_
  refine x_ldan rfl rfl rfl ((rg_out (W := B)).lt (i := 0) (show 0 < 1 by decide)) ?_
  obtain ⟨⟨v151, B152⟩, h150, hr⟩ := bd_some hr
  refine x_cW (m_268 h150) rfl rfl rfl rfl rfl (by omega) ?_
  refine x_b 1 (S2 := (604, [some (.ref am_SB), some (.ref 0), some (.ref 29), some (.ref 46), some (.int x4), some (.int v151), none], [], (mk B152), B152.kc, B152.kn)) rfl ?_
  refine x_ldan rfl rfl rfl ((rg_md (W := B152)).lt (i := 0) (show 0 < 17 by decide)) ?_
  refine x_ldsn rfl rfl rfl ?_
  refine x_b 3 (S2 := (610, [some (.ref am_SB), some (.ref 0), some (.ref 29), some (.ref 46), some (.int x4), some (.int v151), none], [.int (x4 + 1), .ref am_SB, .ref 29], (mk B152), B152.kc, B152.kn)) rfl ?_
  obtain ⟨i153, h154, hr⟩ := bd_some hr
  refine x_sld rfl rfl h154 ?_
  refine x_ldsn rfl rfl rfl ?_
  refine x_b 3 (S2 := (616, [some (.ref am_SB), some (.ref 0), some (.ref 29), some (.ref 46), some (.int x4), some (.int v151), none], [.int (x4 + 2), .ref am_SB, .int (xs i153), .ref 29], (mk B152), B152.kc, B152.kn)) rfl ?_
  obtain ⟨i155, h156, hr⟩ := bd_some hr
  refine x_sld rfl rfl h156 ?_
  obtain ⟨⟨v159, o158⟩, h157, hr⟩ := bd_some hr
  obtain ⟨B160, h161, hr⟩ := bd_some hr
  refine x_cW (wc_md (fun H hb hh hH => m_188 hb hh h157) h161) rfl rfl rfl rfl (am_recv_v ((rg_md (W := B152)).lt (i := 0) (show 0 < 17 by decide)) ((rg_md (W := B152)).at (i := 0) rfl) rfl) (by omega) ?_
  refine x_b 1 (S2 := (622, [some (.ref am_SB), some (.ref 0), some (.ref 29), some (.ref 46), some (.int x4), some (.int v151), some (.int v159)], [], (mk B160), B160.kc, B160.kn)) rfl ?_
  refine x_ldan rfl rfl rfl ((rg_md (W := B160)).lt (i := 0) (show 0 < 17 by decide)) ?_
  obtain ⟨v163, h162, hr⟩ := bd_some hr
  refine x_cW (RnW.of0 (m_133 (rg_md (W := B160)) h162) ⟨rfl, rfl⟩) rfl rfl rfl rfl (am_recv_v ((rg_md (W := B160)).lt (i := 0) (show 0 < 17 by decide)) ((rg_md (W := B160)).at (i := 0) rfl) rfl) (by omega) ?_
  refine x_b 1 (S2 := (628, [some (.ref am_SB), some (.ref 0), some (.ref 29), some (.ref 46), some (.int x4), some (.int v151), some (.int v159)], [.int v151, .int v163], (mk B160), B160.kc, B160.kn)) rfl ?_
  rcases ite_some hr with ⟨h164, hr⟩ | ⟨h164, hr⟩
  · refine x_ct rfl rfl (decide_eq_true h164) ?_
    refine x_b 1 (S2 := (635, [some (.ref am_SB), some (.ref 0), some (.ref 29), some (.ref 46), some (.int x4), some (.int v151), some (.int v159)], [.int v151], (mk B160), B160.kc, B160.kn)) rfl ?_
    rcases ite_some hr with ⟨h165, hr⟩ | ⟨h165, hr⟩
    · refine x_zt rfl rfl (decide_eq_true h165) ?_
      refine x_fg (Lq.s (Lq.s (Lq.s (Lq.s (Lq.s (Lq.n (Lq.n Lq.nil))))))) ?_
      exact j_299_23_j650 hd hr ka kx kr
    · refine x_zf rfl rfl (decide_eq_false h165) ?_
      refine x_ldan rfl rfl rfl ((rg_out (W := B160)).lt (i := 0) (show 0 < 1 by decide)) ?_
      refine x_b 1 (S2 := (640, [some (.ref am_SB), some (.ref 0), some (.ref 29), some (.ref 46), some (.int x4), some (.int v151), some (.int v159)], [.int 0, .ref 46], (mk B160), B160.kc, B160.kn)) rfl ?_
      obtain ⟨i166, h167, hr⟩ := bd_some hr
      refine x_lald rfl rfl ((rg_out (W := B160)).lt (i := 0) (show 0 < 1 by decide)) ((rg_out (W := B160)).at (i := 0) rfl) h167 ?_
      refine x_b 3 (S2 := (645, [some (.ref am_SB), some (.ref 0), some (.ref 29), some (.ref 46), some (.int x4), some (.int v151), some (.int v159)], [.int (lg_cmp (B160.out i166) v159.toInt64)], (mk B160), B160.kc, B160.kn)) rfl ?_
      rcases ite_some hr with ⟨h168, hr⟩ | ⟨h168, hr⟩
      · refine x_zt rfl rfl (decide_eq_true h168) ?_
        refine x_fg (Lq.s (Lq.s (Lq.s (Lq.s (Lq.s (Lq.n (Lq.n Lq.nil))))))) ?_
        exact j_299_23_j650 hd hr ka kx kr
      · refine x_zf rfl rfl (decide_eq_false h168) ?_
        refine x_b 1 (S2 := (649, [some (.ref am_SB), some (.ref 0), some (.ref 29), some (.ref 46), some (.int x4), some (.int v151), some (.int v159)], [.int 0], (mk B160), B160.kc, B160.kn)) rfl ?_
        rw [kr _ (Option.some.inj hr).symm]
        exact x_ret rfl rfl (am_ret_z (by decide))
  · refine x_cf rfl rfl (decide_eq_false h164) ?_
    refine x_b 1 (S2 := (632, [some (.ref am_SB), some (.ref 0), some (.ref 29), some (.ref 46), some (.int x4), some (.int v151), some (.int v159)], [.int 0], (mk B160), B160.kc, B160.kn)) rfl ?_
    rw [kr _ (Option.some.inj hr).symm]
    exact x_ret rfl rfl (am_ret_z (by decide))
def J_299_23_j718 (L : Nat) (xs : Nat → Int32) (B : Wd) (x4 : Int32) : Option ((Int32 × Wd) ⊕ (Wd) ⊕ (Int32 × Wd)) :=
  J_299_23_j2564 L xs B x4
set_option maxRecDepth 200000 in
theorem j_299_23_j718 {d : Nat} (hd : 11 ≤ d) {L : Nat} {xs : Nat → Int32} {res : ARe} {B : Wd} {x4 : Int32} {o : (Int32 × Wd) ⊕ (Wd) ⊕ (Int32 × Wd)} (hr : J_299_23_j718 L xs B x4 = some o) (ka : ∀ s, o = .inl s → Ex d am_M299 (some (L, xs)) (P_299_23 L xs s) res) (kx : ∀ s, o = .inr (.inl s) → Ex d am_M299 (some (L, xs)) (PX_299_23 L xs s) res) (kr : ∀ r, o = .inr (.inr r) → res = (.inl (some (.int r.1)), mk r.2, Wd.kc r.2, Wd.kn r.2)) : Ex d am_M299 (some (L, xs)) (718, [some (.ref am_SB), some (.ref 0), some (.ref 29), some (.ref 46), some (.int x4), none, none], [], (mk B), B.kc, B.kn) res := by
  delta J_299_23_j718 at hr
  refine x_b 1 (S2 := (2564, [some (.ref am_SB), some (.ref 0), some (.ref 29), some (.ref 46), some (.int x4), none, none], [], (mk B), B.kc, B.kn)) rfl ?_
  refine x_fg (Lq.s (Lq.s (Lq.s (Lq.s (Lq.s (Lq.s (Lq.s Lq.nil))))))) ?_
  exact j_299_23_j2564 hd hr ka kx kr
def J_299_23_j653 (L : Nat) (xs : Nat → Int32) (B : Wd) (x4 : Int32) : Option ((Int32 × Wd) ⊕ (Wd) ⊕ (Int32 × Wd)) :=
  (ix (x4 + 1) L).bind fun i172 =>
  (ix (x4 + 2) L).bind fun i174 =>
  (F_269 B (xs i172) (xs i174)).bind fun (v177, B178) =>
  (ix (x4 + 1) L).bind fun i179 =>
  (ix (x4 + 2) L).bind fun i181 =>
  (F_189 B178.md (xs i179) (xs i181)).bind fun (v185, o184) =>
  (some (B178.w_md o184)).bind fun B186 =>
  (F_133 B186.md).bind fun v189 =>
  if v189 = v177 then
    if ¬ v177 = 0 then
      J_299_23_j718 L xs B186 x4
    else
      (ix 0 1).bind fun i192 =>
      if (lg_cmp (B186.out i192) v185.toInt64) = 0 then
        J_299_23_j718 L xs B186 x4
      else
        some (.inr (.inr (0, B186)))
  else
    some (.inr (.inr (0, B186)))
set_option maxRecDepth 200000 in
theorem j_299_23_j653 {d : Nat} (hd : 11 ≤ d) {L : Nat} {xs : Nat → Int32} {res : ARe} {B : Wd} {x4 : Int32} {o : (Int32 × Wd) ⊕ (Wd) ⊕ (Int32 × Wd)} (hr : J_299_23_j653 L xs B x4 = some o) (ka : ∀ s, o = .inl s → Ex d am_M299 (some (L, xs)) (P_299_23 L xs s) res) (kx : ∀ s, o = .inr (.inl s) → Ex d am_M299 (some (L, xs)) (PX_299_23 L xs s) res) (kr : ∀ r, o = .inr (.inr r) → res = (.inl (some (.int r.1)), mk r.2, Wd.kc r.2, Wd.kn r.2)) : Ex d am_M299 (some (L, xs)) (653, [some (.ref am_SB), some (.ref 0), some (.ref 29), some (.ref 46), some (.int x4), none, none], [], (mk B), B.kc, B.kn) res := by
  delta J_299_23_j653 at hr
  refine x_ldan rfl rfl rfl ((rg_pp (W := B)).lt (i := 0) (show 0 < 1 by decide)) ?_
  refine x_ldsn rfl rfl rfl ?_
  refine x_b 3 (S2 := (659, [some (.ref am_SB), some (.ref 0), some (.ref 29), some (.ref 46), some (.int x4), none, none], [.int (x4 + 1), .ref am_SB, .ref 0], (mk B), B.kc, B.kn)) rfl ?_
  obtain ⟨i172, h173, hr⟩ := bd_some hr
  refine x_sld rfl rfl h173 ?_
  refine x_ldsn rfl rfl rfl ?_
  refine x_b 3 (S2 := (665, [some (.ref am_SB), some (.ref 0), some (.ref 29), some (.ref 46), some (.int x4), none, none], [.int (x4 + 2), .ref am_SB, .int (xs i172), .ref 0], (mk B), B.kc, B.kn)) rfl ?_
  obtain ⟨i174, h175, hr⟩ := bd_some hr
  refine x_sld rfl rfl h175 ?_
  refine x_ldan rfl rfl rfl ((rg_out (W := B)).lt (i := 0) (show 0 < 1 by decide)) ?_
  obtain ⟨⟨v177, B178⟩, h176, hr⟩ := bd_some hr
  refine x_cW (m_269 h176) rfl rfl rfl rfl rfl (by omega) ?_
  refine x_b 1 (S2 := (672, [some (.ref am_SB), some (.ref 0), some (.ref 29), some (.ref 46), some (.int x4), some (.int v177), none], [], (mk B178), B178.kc, B178.kn)) rfl ?_
  refine x_ldan rfl rfl rfl ((rg_md (W := B178)).lt (i := 0) (show 0 < 17 by decide)) ?_
  refine x_ldsn rfl rfl rfl ?_
  refine x_b 3 (S2 := (678, [some (.ref am_SB), some (.ref 0), some (.ref 29), some (.ref 46), some (.int x4), some (.int v177), none], [.int (x4 + 1), .ref am_SB, .ref 29], (mk B178), B178.kc, B178.kn)) rfl ?_
  obtain ⟨i179, h180, hr⟩ := bd_some hr
  refine x_sld rfl rfl h180 ?_
  refine x_ldsn rfl rfl rfl ?_
  refine x_b 3 (S2 := (684, [some (.ref am_SB), some (.ref 0), some (.ref 29), some (.ref 46), some (.int x4), some (.int v177), none], [.int (x4 + 2), .ref am_SB, .int (xs i179), .ref 29], (mk B178), B178.kc, B178.kn)) rfl ?_
  obtain ⟨i181, h182, hr⟩ := bd_some hr
  refine x_sld rfl rfl h182 ?_
  obtain ⟨⟨v185, o184⟩, h183, hr⟩ := bd_some hr
  obtain ⟨B186, h187, hr⟩ := bd_some hr
  refine x_cW (wc_md (fun H hb hh hH => m_189 hb hh h183) h187) rfl rfl rfl rfl (am_recv_v ((rg_md (W := B178)).lt (i := 0) (show 0 < 17 by decide)) ((rg_md (W := B178)).at (i := 0) rfl) rfl) (by omega) ?_
  refine x_b 1 (S2 := (690, [some (.ref am_SB), some (.ref 0), some (.ref 29), some (.ref 46), some (.int x4), some (.int v177), some (.int v185)], [], (mk B186), B186.kc, B186.kn)) rfl ?_
  refine x_ldan rfl rfl rfl ((rg_md (W := B186)).lt (i := 0) (show 0 < 17 by decide)) ?_
  obtain ⟨v189, h188, hr⟩ := bd_some hr
  refine x_cW (RnW.of0 (m_133 (rg_md (W := B186)) h188) ⟨rfl, rfl⟩) rfl rfl rfl rfl (am_recv_v ((rg_md (W := B186)).lt (i := 0) (show 0 < 17 by decide)) ((rg_md (W := B186)).at (i := 0) rfl) rfl) (by omega) ?_
  refine x_b 1 (S2 := (696, [some (.ref am_SB), some (.ref 0), some (.ref 29), some (.ref 46), some (.int x4), some (.int v177), some (.int v185)], [.int v177, .int v189], (mk B186), B186.kc, B186.kn)) rfl ?_
  rcases ite_some hr with ⟨h190, hr⟩ | ⟨h190, hr⟩
  · refine x_ct rfl rfl (decide_eq_true h190) ?_
    refine x_b 1 (S2 := (703, [some (.ref am_SB), some (.ref 0), some (.ref 29), some (.ref 46), some (.int x4), some (.int v177), some (.int v185)], [.int v177], (mk B186), B186.kc, B186.kn)) rfl ?_
    rcases ite_some hr with ⟨h191, hr⟩ | ⟨h191, hr⟩
    · refine x_zt rfl rfl (decide_eq_true h191) ?_
      refine x_fg (Lq.s (Lq.s (Lq.s (Lq.s (Lq.s (Lq.n (Lq.n Lq.nil))))))) ?_
      exact j_299_23_j718 hd hr ka kx kr
    · refine x_zf rfl rfl (decide_eq_false h191) ?_
      refine x_ldan rfl rfl rfl ((rg_out (W := B186)).lt (i := 0) (show 0 < 1 by decide)) ?_
      refine x_b 1 (S2 := (708, [some (.ref am_SB), some (.ref 0), some (.ref 29), some (.ref 46), some (.int x4), some (.int v177), some (.int v185)], [.int 0, .ref 46], (mk B186), B186.kc, B186.kn)) rfl ?_
      obtain ⟨i192, h193, hr⟩ := bd_some hr
      refine x_lald rfl rfl ((rg_out (W := B186)).lt (i := 0) (show 0 < 1 by decide)) ((rg_out (W := B186)).at (i := 0) rfl) h193 ?_
      refine x_b 3 (S2 := (713, [some (.ref am_SB), some (.ref 0), some (.ref 29), some (.ref 46), some (.int x4), some (.int v177), some (.int v185)], [.int (lg_cmp (B186.out i192) v185.toInt64)], (mk B186), B186.kc, B186.kn)) rfl ?_
      rcases ite_some hr with ⟨h194, hr⟩ | ⟨h194, hr⟩
      · refine x_zt rfl rfl (decide_eq_true h194) ?_
        refine x_fg (Lq.s (Lq.s (Lq.s (Lq.s (Lq.s (Lq.n (Lq.n Lq.nil))))))) ?_
        exact j_299_23_j718 hd hr ka kx kr
      · refine x_zf rfl rfl (decide_eq_false h194) ?_
        refine x_b 1 (S2 := (717, [some (.ref am_SB), some (.ref 0), some (.ref 29), some (.ref 46), some (.int x4), some (.int v177), some (.int v185)], [.int 0], (mk B186), B186.kc, B186.kn)) rfl ?_
        rw [kr _ (Option.some.inj hr).symm]
        exact x_ret rfl rfl (am_ret_z (by decide))
  · refine x_cf rfl rfl (decide_eq_false h190) ?_
    refine x_b 1 (S2 := (700, [some (.ref am_SB), some (.ref 0), some (.ref 29), some (.ref 46), some (.int x4), some (.int v177), some (.int v185)], [.int 0], (mk B186), B186.kc, B186.kn)) rfl ?_
    rw [kr _ (Option.some.inj hr).symm]
    exact x_ret rfl rfl (am_ret_z (by decide))
def J_299_23_j786 (L : Nat) (xs : Nat → Int32) (B : Wd) (x4 : Int32) : Option ((Int32 × Wd) ⊕ (Wd) ⊕ (Int32 × Wd)) :=
  J_299_23_j2564 L xs B x4
set_option maxRecDepth 200000 in
theorem j_299_23_j786 {d : Nat} (hd : 11 ≤ d) {L : Nat} {xs : Nat → Int32} {res : ARe} {B : Wd} {x4 : Int32} {o : (Int32 × Wd) ⊕ (Wd) ⊕ (Int32 × Wd)} (hr : J_299_23_j786 L xs B x4 = some o) (ka : ∀ s, o = .inl s → Ex d am_M299 (some (L, xs)) (P_299_23 L xs s) res) (kx : ∀ s, o = .inr (.inl s) → Ex d am_M299 (some (L, xs)) (PX_299_23 L xs s) res) (kr : ∀ r, o = .inr (.inr r) → res = (.inl (some (.int r.1)), mk r.2, Wd.kc r.2, Wd.kn r.2)) : Ex d am_M299 (some (L, xs)) (786, [some (.ref am_SB), some (.ref 0), some (.ref 29), some (.ref 46), some (.int x4), none, none], [], (mk B), B.kc, B.kn) res := by
  delta J_299_23_j786 at hr
  refine x_b 1 (S2 := (2564, [some (.ref am_SB), some (.ref 0), some (.ref 29), some (.ref 46), some (.int x4), none, none], [], (mk B), B.kc, B.kn)) rfl ?_
  refine x_fg (Lq.s (Lq.s (Lq.s (Lq.s (Lq.s (Lq.s (Lq.s Lq.nil))))))) ?_
  exact j_299_23_j2564 hd hr ka kx kr
def J_299_23_j721 (L : Nat) (xs : Nat → Int32) (B : Wd) (x4 : Int32) : Option ((Int32 × Wd) ⊕ (Wd) ⊕ (Int32 × Wd)) :=
  (ix (x4 + 1) L).bind fun i198 =>
  (ix (x4 + 2) L).bind fun i200 =>
  (F_270 B (xs i198) (xs i200)).bind fun (v203, B204) =>
  (ix (x4 + 1) L).bind fun i205 =>
  (ix (x4 + 2) L).bind fun i207 =>
  (F_193 B204.md (xs i205) (xs i207)).bind fun (v211, o210) =>
  (some (B204.w_md o210)).bind fun B212 =>
  (F_133 B212.md).bind fun v215 =>
  if v215 = v203 then
    if ¬ v203 = 0 then
      J_299_23_j786 L xs B212 x4
    else
      (ix 0 1).bind fun i218 =>
      if (lg_cmp (B212.out i218) v211.toInt64) = 0 then
        J_299_23_j786 L xs B212 x4
      else
        some (.inr (.inr (0, B212)))
  else
    some (.inr (.inr (0, B212)))
set_option maxRecDepth 200000 in
theorem j_299_23_j721 {d : Nat} (hd : 11 ≤ d) {L : Nat} {xs : Nat → Int32} {res : ARe} {B : Wd} {x4 : Int32} {o : (Int32 × Wd) ⊕ (Wd) ⊕ (Int32 × Wd)} (hr : J_299_23_j721 L xs B x4 = some o) (ka : ∀ s, o = .inl s → Ex d am_M299 (some (L, xs)) (P_299_23 L xs s) res) (kx : ∀ s, o = .inr (.inl s) → Ex d am_M299 (some (L, xs)) (PX_299_23 L xs s) res) (kr : ∀ r, o = .inr (.inr r) → res = (.inl (some (.int r.1)), mk r.2, Wd.kc r.2, Wd.kn r.2)) : Ex d am_M299 (some (L, xs)) (721, [some (.ref am_SB), some (.ref 0), some (.ref 29), some (.ref 46), some (.int x4), none, none], [], (mk B), B.kc, B.kn) res := by
  delta J_299_23_j721 at hr
  refine x_ldan rfl rfl rfl ((rg_pp (W := B)).lt (i := 0) (show 0 < 1 by decide)) ?_
  refine x_ldsn rfl rfl rfl ?_
  refine x_b 3 (S2 := (727, [some (.ref am_SB), some (.ref 0), some (.ref 29), some (.ref 46), some (.int x4), none, none], [.int (x4 + 1), .ref am_SB, .ref 0], (mk B), B.kc, B.kn)) rfl ?_
  obtain ⟨i198, h199, hr⟩ := bd_some hr
  refine x_sld rfl rfl h199 ?_
  refine x_ldsn rfl rfl rfl ?_
  refine x_b 3 (S2 := (733, [some (.ref am_SB), some (.ref 0), some (.ref 29), some (.ref 46), some (.int x4), none, none], [.int (x4 + 2), .ref am_SB, .int (xs i198), .ref 0], (mk B), B.kc, B.kn)) rfl ?_
  obtain ⟨i200, h201, hr⟩ := bd_some hr
  refine x_sld rfl rfl h201 ?_
  refine x_ldan rfl rfl rfl ((rg_out (W := B)).lt (i := 0) (show 0 < 1 by decide)) ?_
  obtain ⟨⟨v203, B204⟩, h202, hr⟩ := bd_some hr
  refine x_cW (m_270 h202) rfl rfl rfl rfl rfl (by omega) ?_
  refine x_b 1 (S2 := (740, [some (.ref am_SB), some (.ref 0), some (.ref 29), some (.ref 46), some (.int x4), some (.int v203), none], [], (mk B204), B204.kc, B204.kn)) rfl ?_
  refine x_ldan rfl rfl rfl ((rg_md (W := B204)).lt (i := 0) (show 0 < 17 by decide)) ?_
  refine x_ldsn rfl rfl rfl ?_
  refine x_b 3 (S2 := (746, [some (.ref am_SB), some (.ref 0), some (.ref 29), some (.ref 46), some (.int x4), some (.int v203), none], [.int (x4 + 1), .ref am_SB, .ref 29], (mk B204), B204.kc, B204.kn)) rfl ?_
  obtain ⟨i205, h206, hr⟩ := bd_some hr
  refine x_sld rfl rfl h206 ?_
  refine x_ldsn rfl rfl rfl ?_
  refine x_b 3 (S2 := (752, [some (.ref am_SB), some (.ref 0), some (.ref 29), some (.ref 46), some (.int x4), some (.int v203), none], [.int (x4 + 2), .ref am_SB, .int (xs i205), .ref 29], (mk B204), B204.kc, B204.kn)) rfl ?_
  obtain ⟨i207, h208, hr⟩ := bd_some hr
  refine x_sld rfl rfl h208 ?_
  obtain ⟨⟨v211, o210⟩, h209, hr⟩ := bd_some hr
  obtain ⟨B212, h213, hr⟩ := bd_some hr
  refine x_cW (wc_md (fun H hb hh hH => m_193 hb hh h209) h213) rfl rfl rfl rfl (am_recv_v ((rg_md (W := B204)).lt (i := 0) (show 0 < 17 by decide)) ((rg_md (W := B204)).at (i := 0) rfl) rfl) (by omega) ?_
  refine x_b 1 (S2 := (758, [some (.ref am_SB), some (.ref 0), some (.ref 29), some (.ref 46), some (.int x4), some (.int v203), some (.int v211)], [], (mk B212), B212.kc, B212.kn)) rfl ?_
  refine x_ldan rfl rfl rfl ((rg_md (W := B212)).lt (i := 0) (show 0 < 17 by decide)) ?_
  obtain ⟨v215, h214, hr⟩ := bd_some hr
  refine x_cW (RnW.of0 (m_133 (rg_md (W := B212)) h214) ⟨rfl, rfl⟩) rfl rfl rfl rfl (am_recv_v ((rg_md (W := B212)).lt (i := 0) (show 0 < 17 by decide)) ((rg_md (W := B212)).at (i := 0) rfl) rfl) (by omega) ?_
  refine x_b 1 (S2 := (764, [some (.ref am_SB), some (.ref 0), some (.ref 29), some (.ref 46), some (.int x4), some (.int v203), some (.int v211)], [.int v203, .int v215], (mk B212), B212.kc, B212.kn)) rfl ?_
  rcases ite_some hr with ⟨h216, hr⟩ | ⟨h216, hr⟩
  · refine x_ct rfl rfl (decide_eq_true h216) ?_
    refine x_b 1 (S2 := (771, [some (.ref am_SB), some (.ref 0), some (.ref 29), some (.ref 46), some (.int x4), some (.int v203), some (.int v211)], [.int v203], (mk B212), B212.kc, B212.kn)) rfl ?_
    rcases ite_some hr with ⟨h217, hr⟩ | ⟨h217, hr⟩
    · refine x_zt rfl rfl (decide_eq_true h217) ?_
      refine x_fg (Lq.s (Lq.s (Lq.s (Lq.s (Lq.s (Lq.n (Lq.n Lq.nil))))))) ?_
      exact j_299_23_j786 hd hr ka kx kr
    · refine x_zf rfl rfl (decide_eq_false h217) ?_
      refine x_ldan rfl rfl rfl ((rg_out (W := B212)).lt (i := 0) (show 0 < 1 by decide)) ?_
      refine x_b 1 (S2 := (776, [some (.ref am_SB), some (.ref 0), some (.ref 29), some (.ref 46), some (.int x4), some (.int v203), some (.int v211)], [.int 0, .ref 46], (mk B212), B212.kc, B212.kn)) rfl ?_
      obtain ⟨i218, h219, hr⟩ := bd_some hr
      refine x_lald rfl rfl ((rg_out (W := B212)).lt (i := 0) (show 0 < 1 by decide)) ((rg_out (W := B212)).at (i := 0) rfl) h219 ?_
      refine x_b 3 (S2 := (781, [some (.ref am_SB), some (.ref 0), some (.ref 29), some (.ref 46), some (.int x4), some (.int v203), some (.int v211)], [.int (lg_cmp (B212.out i218) v211.toInt64)], (mk B212), B212.kc, B212.kn)) rfl ?_
      rcases ite_some hr with ⟨h220, hr⟩ | ⟨h220, hr⟩
      · refine x_zt rfl rfl (decide_eq_true h220) ?_
        refine x_fg (Lq.s (Lq.s (Lq.s (Lq.s (Lq.s (Lq.n (Lq.n Lq.nil))))))) ?_
        exact j_299_23_j786 hd hr ka kx kr
      · refine x_zf rfl rfl (decide_eq_false h220) ?_
        refine x_b 1 (S2 := (785, [some (.ref am_SB), some (.ref 0), some (.ref 29), some (.ref 46), some (.int x4), some (.int v203), some (.int v211)], [.int 0], (mk B212), B212.kc, B212.kn)) rfl ?_
        rw [kr _ (Option.some.inj hr).symm]
        exact x_ret rfl rfl (am_ret_z (by decide))
  · refine x_cf rfl rfl (decide_eq_false h216) ?_
    refine x_b 1 (S2 := (768, [some (.ref am_SB), some (.ref 0), some (.ref 29), some (.ref 46), some (.int x4), some (.int v203), some (.int v211)], [.int 0], (mk B212), B212.kc, B212.kn)) rfl ?_
    rw [kr _ (Option.some.inj hr).symm]
    exact x_ret rfl rfl (am_ret_z (by decide))
def J_299_23_j842 (L : Nat) (xs : Nat → Int32) (B : Wd) (x4 : Int32) : Option ((Int32 × Wd) ⊕ (Wd) ⊕ (Int32 × Wd)) :=
  J_299_23_j2564 L xs B x4
set_option maxRecDepth 200000 in
theorem j_299_23_j842 {d : Nat} (hd : 11 ≤ d) {L : Nat} {xs : Nat → Int32} {res : ARe} {B : Wd} {x4 : Int32} {o : (Int32 × Wd) ⊕ (Wd) ⊕ (Int32 × Wd)} (hr : J_299_23_j842 L xs B x4 = some o) (ka : ∀ s, o = .inl s → Ex d am_M299 (some (L, xs)) (P_299_23 L xs s) res) (kx : ∀ s, o = .inr (.inl s) → Ex d am_M299 (some (L, xs)) (PX_299_23 L xs s) res) (kr : ∀ r, o = .inr (.inr r) → res = (.inl (some (.int r.1)), mk r.2, Wd.kc r.2, Wd.kn r.2)) : Ex d am_M299 (some (L, xs)) (842, [some (.ref am_SB), some (.ref 0), some (.ref 29), some (.ref 46), some (.int x4), none, none], [], (mk B), B.kc, B.kn) res := by
  delta J_299_23_j842 at hr
  refine x_b 1 (S2 := (2564, [some (.ref am_SB), some (.ref 0), some (.ref 29), some (.ref 46), some (.int x4), none, none], [], (mk B), B.kc, B.kn)) rfl ?_
  refine x_fg (Lq.s (Lq.s (Lq.s (Lq.s (Lq.s (Lq.s (Lq.s Lq.nil))))))) ?_
  exact j_299_23_j2564 hd hr ka kx kr
def J_299_23_j789 (L : Nat) (xs : Nat → Int32) (B : Wd) (x4 : Int32) : Option ((Int32 × Wd) ⊕ (Wd) ⊕ (Int32 × Wd)) :=
  (ix (x4 + 1) L).bind fun i224 =>
  (F_271 B (xs i224)).bind fun (v227, B228) =>
  (ix (x4 + 1) L).bind fun i229 =>
  (F_194 B228.md (xs i229)).bind fun (v233, o232) =>
  (some (B228.w_md o232)).bind fun B234 =>
  (F_133 B234.md).bind fun v237 =>
  if v237 = v227 then
    if ¬ v227 = 0 then
      J_299_23_j842 L xs B234 x4
    else
      (ix 0 1).bind fun i240 =>
      if (lg_cmp (B234.out i240) v233.toInt64) = 0 then
        J_299_23_j842 L xs B234 x4
      else
        some (.inr (.inr (0, B234)))
  else
    some (.inr (.inr (0, B234)))
set_option maxRecDepth 200000 in
theorem j_299_23_j789 {d : Nat} (hd : 11 ≤ d) {L : Nat} {xs : Nat → Int32} {res : ARe} {B : Wd} {x4 : Int32} {o : (Int32 × Wd) ⊕ (Wd) ⊕ (Int32 × Wd)} (hr : J_299_23_j789 L xs B x4 = some o) (ka : ∀ s, o = .inl s → Ex d am_M299 (some (L, xs)) (P_299_23 L xs s) res) (kx : ∀ s, o = .inr (.inl s) → Ex d am_M299 (some (L, xs)) (PX_299_23 L xs s) res) (kr : ∀ r, o = .inr (.inr r) → res = (.inl (some (.int r.1)), mk r.2, Wd.kc r.2, Wd.kn r.2)) : Ex d am_M299 (some (L, xs)) (789, [some (.ref am_SB), some (.ref 0), some (.ref 29), some (.ref 46), some (.int x4), none, none], [], (mk B), B.kc, B.kn) res := by
  delta J_299_23_j789 at hr
  refine x_ldan rfl rfl rfl ((rg_pp (W := B)).lt (i := 0) (show 0 < 1 by decide)) ?_
  refine x_ldsn rfl rfl rfl ?_
  refine x_b 3 (S2 := (795, [some (.ref am_SB), some (.ref 0), some (.ref 29), some (.ref 46), some (.int x4), none, none], [.int (x4 + 1), .ref am_SB, .ref 0], (mk B), B.kc, B.kn)) rfl ?_
  obtain ⟨i224, h225, hr⟩ := bd_some hr
  refine x_sld rfl rfl h225 ?_
  refine x_ldan rfl rfl rfl ((rg_out (W := B)).lt (i := 0) (show 0 < 1 by decide)) ?_
  obtain ⟨⟨v227, B228⟩, h226, hr⟩ := bd_some hr
  refine x_cW (m_271 h226) rfl rfl rfl rfl rfl (by omega) ?_
  refine x_b 1 (S2 := (802, [some (.ref am_SB), some (.ref 0), some (.ref 29), some (.ref 46), some (.int x4), some (.int v227), none], [], (mk B228), B228.kc, B228.kn)) rfl ?_
  refine x_ldan rfl rfl rfl ((rg_md (W := B228)).lt (i := 0) (show 0 < 17 by decide)) ?_
  refine x_ldsn rfl rfl rfl ?_
  refine x_b 3 (S2 := (808, [some (.ref am_SB), some (.ref 0), some (.ref 29), some (.ref 46), some (.int x4), some (.int v227), none], [.int (x4 + 1), .ref am_SB, .ref 29], (mk B228), B228.kc, B228.kn)) rfl ?_
  obtain ⟨i229, h230, hr⟩ := bd_some hr
  refine x_sld rfl rfl h230 ?_
  obtain ⟨⟨v233, o232⟩, h231, hr⟩ := bd_some hr
  obtain ⟨B234, h235, hr⟩ := bd_some hr
  refine x_cW (wc_md (fun H hb hh hH => m_194 hb hh h231) h235) rfl rfl rfl rfl (am_recv_v ((rg_md (W := B228)).lt (i := 0) (show 0 < 17 by decide)) ((rg_md (W := B228)).at (i := 0) rfl) rfl) (by omega) ?_
  refine x_b 1 (S2 := (814, [some (.ref am_SB), some (.ref 0), some (.ref 29), some (.ref 46), some (.int x4), some (.int v227), some (.int v233)], [], (mk B234), B234.kc, B234.kn)) rfl ?_
  refine x_ldan rfl rfl rfl ((rg_md (W := B234)).lt (i := 0) (show 0 < 17 by decide)) ?_
  obtain ⟨v237, h236, hr⟩ := bd_some hr
  refine x_cW (RnW.of0 (m_133 (rg_md (W := B234)) h236) ⟨rfl, rfl⟩) rfl rfl rfl rfl (am_recv_v ((rg_md (W := B234)).lt (i := 0) (show 0 < 17 by decide)) ((rg_md (W := B234)).at (i := 0) rfl) rfl) (by omega) ?_
  refine x_b 1 (S2 := (820, [some (.ref am_SB), some (.ref 0), some (.ref 29), some (.ref 46), some (.int x4), some (.int v227), some (.int v233)], [.int v227, .int v237], (mk B234), B234.kc, B234.kn)) rfl ?_
  rcases ite_some hr with ⟨h238, hr⟩ | ⟨h238, hr⟩
  · refine x_ct rfl rfl (decide_eq_true h238) ?_
    refine x_b 1 (S2 := (827, [some (.ref am_SB), some (.ref 0), some (.ref 29), some (.ref 46), some (.int x4), some (.int v227), some (.int v233)], [.int v227], (mk B234), B234.kc, B234.kn)) rfl ?_
    rcases ite_some hr with ⟨h239, hr⟩ | ⟨h239, hr⟩
    · refine x_zt rfl rfl (decide_eq_true h239) ?_
      refine x_fg (Lq.s (Lq.s (Lq.s (Lq.s (Lq.s (Lq.n (Lq.n Lq.nil))))))) ?_
      exact j_299_23_j842 hd hr ka kx kr
    · refine x_zf rfl rfl (decide_eq_false h239) ?_
      refine x_ldan rfl rfl rfl ((rg_out (W := B234)).lt (i := 0) (show 0 < 1 by decide)) ?_
      refine x_b 1 (S2 := (832, [some (.ref am_SB), some (.ref 0), some (.ref 29), some (.ref 46), some (.int x4), some (.int v227), some (.int v233)], [.int 0, .ref 46], (mk B234), B234.kc, B234.kn)) rfl ?_
      obtain ⟨i240, h241, hr⟩ := bd_some hr
      refine x_lald rfl rfl ((rg_out (W := B234)).lt (i := 0) (show 0 < 1 by decide)) ((rg_out (W := B234)).at (i := 0) rfl) h241 ?_
      refine x_b 3 (S2 := (837, [some (.ref am_SB), some (.ref 0), some (.ref 29), some (.ref 46), some (.int x4), some (.int v227), some (.int v233)], [.int (lg_cmp (B234.out i240) v233.toInt64)], (mk B234), B234.kc, B234.kn)) rfl ?_
      rcases ite_some hr with ⟨h242, hr⟩ | ⟨h242, hr⟩
      · refine x_zt rfl rfl (decide_eq_true h242) ?_
        refine x_fg (Lq.s (Lq.s (Lq.s (Lq.s (Lq.s (Lq.n (Lq.n Lq.nil))))))) ?_
        exact j_299_23_j842 hd hr ka kx kr
      · refine x_zf rfl rfl (decide_eq_false h242) ?_
        refine x_b 1 (S2 := (841, [some (.ref am_SB), some (.ref 0), some (.ref 29), some (.ref 46), some (.int x4), some (.int v227), some (.int v233)], [.int 0], (mk B234), B234.kc, B234.kn)) rfl ?_
        rw [kr _ (Option.some.inj hr).symm]
        exact x_ret rfl rfl (am_ret_z (by decide))
  · refine x_cf rfl rfl (decide_eq_false h238) ?_
    refine x_b 1 (S2 := (824, [some (.ref am_SB), some (.ref 0), some (.ref 29), some (.ref 46), some (.int x4), some (.int v227), some (.int v233)], [.int 0], (mk B234), B234.kc, B234.kn)) rfl ?_
    rw [kr _ (Option.some.inj hr).symm]
    exact x_ret rfl rfl (am_ret_z (by decide))
def J_299_23_j898 (L : Nat) (xs : Nat → Int32) (B : Wd) (x4 : Int32) : Option ((Int32 × Wd) ⊕ (Wd) ⊕ (Int32 × Wd)) :=
  J_299_23_j2564 L xs B x4
set_option maxRecDepth 200000 in
theorem j_299_23_j898 {d : Nat} (hd : 11 ≤ d) {L : Nat} {xs : Nat → Int32} {res : ARe} {B : Wd} {x4 : Int32} {o : (Int32 × Wd) ⊕ (Wd) ⊕ (Int32 × Wd)} (hr : J_299_23_j898 L xs B x4 = some o) (ka : ∀ s, o = .inl s → Ex d am_M299 (some (L, xs)) (P_299_23 L xs s) res) (kx : ∀ s, o = .inr (.inl s) → Ex d am_M299 (some (L, xs)) (PX_299_23 L xs s) res) (kr : ∀ r, o = .inr (.inr r) → res = (.inl (some (.int r.1)), mk r.2, Wd.kc r.2, Wd.kn r.2)) : Ex d am_M299 (some (L, xs)) (898, [some (.ref am_SB), some (.ref 0), some (.ref 29), some (.ref 46), some (.int x4), none, none], [], (mk B), B.kc, B.kn) res := by
  delta J_299_23_j898 at hr
  refine x_b 1 (S2 := (2564, [some (.ref am_SB), some (.ref 0), some (.ref 29), some (.ref 46), some (.int x4), none, none], [], (mk B), B.kc, B.kn)) rfl ?_
  refine x_fg (Lq.s (Lq.s (Lq.s (Lq.s (Lq.s (Lq.s (Lq.s Lq.nil))))))) ?_
  exact j_299_23_j2564 hd hr ka kx kr
def J_299_23_j845 (L : Nat) (xs : Nat → Int32) (B : Wd) (x4 : Int32) : Option ((Int32 × Wd) ⊕ (Wd) ⊕ (Int32 × Wd)) :=
  (ix (x4 + 1) L).bind fun i246 =>
  (F_272 B (xs i246)).bind fun (v249, B250) =>
  (ix (x4 + 1) L).bind fun i251 =>
  (F_195 B250.md (xs i251)).bind fun (v255, o254) =>
  (some (B250.w_md o254)).bind fun B256 =>
  (F_133 B256.md).bind fun v259 =>
  if v259 = v249 then
    if ¬ v249 = 0 then
      J_299_23_j898 L xs B256 x4
    else
      (ix 0 1).bind fun i262 =>
      if (lg_cmp (B256.out i262) v255.toInt64) = 0 then
        J_299_23_j898 L xs B256 x4
      else
        some (.inr (.inr (0, B256)))
  else
    some (.inr (.inr (0, B256)))
set_option maxRecDepth 200000 in
theorem j_299_23_j845 {d : Nat} (hd : 11 ≤ d) {L : Nat} {xs : Nat → Int32} {res : ARe} {B : Wd} {x4 : Int32} {o : (Int32 × Wd) ⊕ (Wd) ⊕ (Int32 × Wd)} (hr : J_299_23_j845 L xs B x4 = some o) (ka : ∀ s, o = .inl s → Ex d am_M299 (some (L, xs)) (P_299_23 L xs s) res) (kx : ∀ s, o = .inr (.inl s) → Ex d am_M299 (some (L, xs)) (PX_299_23 L xs s) res) (kr : ∀ r, o = .inr (.inr r) → res = (.inl (some (.int r.1)), mk r.2, Wd.kc r.2, Wd.kn r.2)) : Ex d am_M299 (some (L, xs)) (845, [some (.ref am_SB), some (.ref 0), some (.ref 29), some (.ref 46), some (.int x4), none, none], [], (mk B), B.kc, B.kn) res := by
  delta J_299_23_j845 at hr
  refine x_ldan rfl rfl rfl ((rg_pp (W := B)).lt (i := 0) (show 0 < 1 by decide)) ?_
  refine x_ldsn rfl rfl rfl ?_
  refine x_b 3 (S2 := (851, [some (.ref am_SB), some (.ref 0), some (.ref 29), some (.ref 46), some (.int x4), none, none], [.int (x4 + 1), .ref am_SB, .ref 0], (mk B), B.kc, B.kn)) rfl ?_
  obtain ⟨i246, h247, hr⟩ := bd_some hr
  refine x_sld rfl rfl h247 ?_
  refine x_ldan rfl rfl rfl ((rg_out (W := B)).lt (i := 0) (show 0 < 1 by decide)) ?_
  obtain ⟨⟨v249, B250⟩, h248, hr⟩ := bd_some hr
  refine x_cW (m_272 h248) rfl rfl rfl rfl rfl (by omega) ?_
  refine x_b 1 (S2 := (858, [some (.ref am_SB), some (.ref 0), some (.ref 29), some (.ref 46), some (.int x4), some (.int v249), none], [], (mk B250), B250.kc, B250.kn)) rfl ?_
  refine x_ldan rfl rfl rfl ((rg_md (W := B250)).lt (i := 0) (show 0 < 17 by decide)) ?_
  refine x_ldsn rfl rfl rfl ?_
  refine x_b 3 (S2 := (864, [some (.ref am_SB), some (.ref 0), some (.ref 29), some (.ref 46), some (.int x4), some (.int v249), none], [.int (x4 + 1), .ref am_SB, .ref 29], (mk B250), B250.kc, B250.kn)) rfl ?_
  obtain ⟨i251, h252, hr⟩ := bd_some hr
  refine x_sld rfl rfl h252 ?_
  obtain ⟨⟨v255, o254⟩, h253, hr⟩ := bd_some hr
  obtain ⟨B256, h257, hr⟩ := bd_some hr
  refine x_cW (wc_md (fun H hb hh hH => m_195 hb hh h253) h257) rfl rfl rfl rfl (am_recv_v ((rg_md (W := B250)).lt (i := 0) (show 0 < 17 by decide)) ((rg_md (W := B250)).at (i := 0) rfl) rfl) (by omega) ?_
  refine x_b 1 (S2 := (870, [some (.ref am_SB), some (.ref 0), some (.ref 29), some (.ref 46), some (.int x4), some (.int v249), some (.int v255)], [], (mk B256), B256.kc, B256.kn)) rfl ?_
  refine x_ldan rfl rfl rfl ((rg_md (W := B256)).lt (i := 0) (show 0 < 17 by decide)) ?_
  obtain ⟨v259, h258, hr⟩ := bd_some hr
  refine x_cW (RnW.of0 (m_133 (rg_md (W := B256)) h258) ⟨rfl, rfl⟩) rfl rfl rfl rfl (am_recv_v ((rg_md (W := B256)).lt (i := 0) (show 0 < 17 by decide)) ((rg_md (W := B256)).at (i := 0) rfl) rfl) (by omega) ?_
  refine x_b 1 (S2 := (876, [some (.ref am_SB), some (.ref 0), some (.ref 29), some (.ref 46), some (.int x4), some (.int v249), some (.int v255)], [.int v249, .int v259], (mk B256), B256.kc, B256.kn)) rfl ?_
  rcases ite_some hr with ⟨h260, hr⟩ | ⟨h260, hr⟩
  · refine x_ct rfl rfl (decide_eq_true h260) ?_
    refine x_b 1 (S2 := (883, [some (.ref am_SB), some (.ref 0), some (.ref 29), some (.ref 46), some (.int x4), some (.int v249), some (.int v255)], [.int v249], (mk B256), B256.kc, B256.kn)) rfl ?_
    rcases ite_some hr with ⟨h261, hr⟩ | ⟨h261, hr⟩
    · refine x_zt rfl rfl (decide_eq_true h261) ?_
      refine x_fg (Lq.s (Lq.s (Lq.s (Lq.s (Lq.s (Lq.n (Lq.n Lq.nil))))))) ?_
      exact j_299_23_j898 hd hr ka kx kr
    · refine x_zf rfl rfl (decide_eq_false h261) ?_
      refine x_ldan rfl rfl rfl ((rg_out (W := B256)).lt (i := 0) (show 0 < 1 by decide)) ?_
      refine x_b 1 (S2 := (888, [some (.ref am_SB), some (.ref 0), some (.ref 29), some (.ref 46), some (.int x4), some (.int v249), some (.int v255)], [.int 0, .ref 46], (mk B256), B256.kc, B256.kn)) rfl ?_
      obtain ⟨i262, h263, hr⟩ := bd_some hr
      refine x_lald rfl rfl ((rg_out (W := B256)).lt (i := 0) (show 0 < 1 by decide)) ((rg_out (W := B256)).at (i := 0) rfl) h263 ?_
      refine x_b 3 (S2 := (893, [some (.ref am_SB), some (.ref 0), some (.ref 29), some (.ref 46), some (.int x4), some (.int v249), some (.int v255)], [.int (lg_cmp (B256.out i262) v255.toInt64)], (mk B256), B256.kc, B256.kn)) rfl ?_
      rcases ite_some hr with ⟨h264, hr⟩ | ⟨h264, hr⟩
      · refine x_zt rfl rfl (decide_eq_true h264) ?_
        refine x_fg (Lq.s (Lq.s (Lq.s (Lq.s (Lq.s (Lq.n (Lq.n Lq.nil))))))) ?_
        exact j_299_23_j898 hd hr ka kx kr
      · refine x_zf rfl rfl (decide_eq_false h264) ?_
        refine x_b 1 (S2 := (897, [some (.ref am_SB), some (.ref 0), some (.ref 29), some (.ref 46), some (.int x4), some (.int v249), some (.int v255)], [.int 0], (mk B256), B256.kc, B256.kn)) rfl ?_
        rw [kr _ (Option.some.inj hr).symm]
        exact x_ret rfl rfl (am_ret_z (by decide))
  · refine x_cf rfl rfl (decide_eq_false h260) ?_
    refine x_b 1 (S2 := (880, [some (.ref am_SB), some (.ref 0), some (.ref 29), some (.ref 46), some (.int x4), some (.int v249), some (.int v255)], [.int 0], (mk B256), B256.kc, B256.kn)) rfl ?_
    rw [kr _ (Option.some.inj hr).symm]
    exact x_ret rfl rfl (am_ret_z (by decide))
def J_299_23_j990 (L : Nat) (xs : Nat → Int32) (B : Wd) (x4 : Int32) : Option ((Int32 × Wd) ⊕ (Wd) ⊕ (Int32 × Wd)) :=
  J_299_23_j2564 L xs B x4
set_option maxRecDepth 200000 in
theorem j_299_23_j990 {d : Nat} (hd : 11 ≤ d) {L : Nat} {xs : Nat → Int32} {res : ARe} {B : Wd} {x4 : Int32} {o : (Int32 × Wd) ⊕ (Wd) ⊕ (Int32 × Wd)} (hr : J_299_23_j990 L xs B x4 = some o) (ka : ∀ s, o = .inl s → Ex d am_M299 (some (L, xs)) (P_299_23 L xs s) res) (kx : ∀ s, o = .inr (.inl s) → Ex d am_M299 (some (L, xs)) (PX_299_23 L xs s) res) (kr : ∀ r, o = .inr (.inr r) → res = (.inl (some (.int r.1)), mk r.2, Wd.kc r.2, Wd.kn r.2)) : Ex d am_M299 (some (L, xs)) (990, [some (.ref am_SB), some (.ref 0), some (.ref 29), some (.ref 46), some (.int x4), none, none], [], (mk B), B.kc, B.kn) res := by
  delta J_299_23_j990 at hr
  refine x_b 1 (S2 := (2564, [some (.ref am_SB), some (.ref 0), some (.ref 29), some (.ref 46), some (.int x4), none, none], [], (mk B), B.kc, B.kn)) rfl ?_
  refine x_fg (Lq.s (Lq.s (Lq.s (Lq.s (Lq.s (Lq.s (Lq.s Lq.nil))))))) ?_
  exact j_299_23_j2564 hd hr ka kx kr
def J_299_23_j901 (L : Nat) (xs : Nat → Int32) (B : Wd) (x4 : Int32) : Option ((Int32 × Wd) ⊕ (Wd) ⊕ (Int32 × Wd)) :=
  (ix (x4 + 1) L).bind fun i268 =>
  (ix (x4 + 2) L).bind fun i270 =>
  (ix (x4 + 3) L).bind fun i272 =>
  (ix (x4 + 4) L).bind fun i274 =>
  (F_273 B (xs i268) (xs i270) (xs i272) (xs i274)).bind fun (v277, B278) =>
  (ix (x4 + 1) L).bind fun i279 =>
  (ix (x4 + 2) L).bind fun i281 =>
  (ix (x4 + 3) L).bind fun i283 =>
  (ix (x4 + 4) L).bind fun i285 =>
  (F_196 B278.md (xs i279) (xs i281) (xs i283) (xs i285)).bind fun (v289, o288) =>
  (some (B278.w_md o288)).bind fun B290 =>
  (F_133 B290.md).bind fun v293 =>
  if v293 = v277 then
    if ¬ v277 = 0 then
      J_299_23_j990 L xs B290 x4
    else
      (ix 0 1).bind fun i296 =>
      if (lg_cmp (B290.out i296) v289.toInt64) = 0 then
        J_299_23_j990 L xs B290 x4
      else
        some (.inr (.inr (0, B290)))
  else
    some (.inr (.inr (0, B290)))
set_option maxRecDepth 200000 in
theorem j_299_23_j901 {d : Nat} (hd : 11 ≤ d) {L : Nat} {xs : Nat → Int32} {res : ARe} {B : Wd} {x4 : Int32} {o : (Int32 × Wd) ⊕ (Wd) ⊕ (Int32 × Wd)} (hr : J_299_23_j901 L xs B x4 = some o) (ka : ∀ s, o = .inl s → Ex d am_M299 (some (L, xs)) (P_299_23 L xs s) res) (kx : ∀ s, o = .inr (.inl s) → Ex d am_M299 (some (L, xs)) (PX_299_23 L xs s) res) (kr : ∀ r, o = .inr (.inr r) → res = (.inl (some (.int r.1)), mk r.2, Wd.kc r.2, Wd.kn r.2)) : Ex d am_M299 (some (L, xs)) (901, [some (.ref am_SB), some (.ref 0), some (.ref 29), some (.ref 46), some (.int x4), none, none], [], (mk B), B.kc, B.kn) res := by
  delta J_299_23_j901 at hr
  refine x_ldan rfl rfl rfl ((rg_pp (W := B)).lt (i := 0) (show 0 < 1 by decide)) ?_
  refine x_ldsn rfl rfl rfl ?_
  refine x_b 3 (S2 := (907, [some (.ref am_SB), some (.ref 0), some (.ref 29), some (.ref 46), some (.int x4), none, none], [.int (x4 + 1), .ref am_SB, .ref 0], (mk B), B.kc, B.kn)) rfl ?_
  obtain ⟨i268, h269, hr⟩ := bd_some hr
  refine x_sld rfl rfl h269 ?_
  refine x_ldsn rfl rfl rfl ?_
  refine x_b 3 (S2 := (913, [some (.ref am_SB), some (.ref 0), some (.ref 29), some (.ref 46), some (.int x4), none, none], [.int (x4 + 2), .ref am_SB, .int (xs i268), .ref 0], (mk B), B.kc, B.kn)) rfl ?_
  obtain ⟨i270, h271, hr⟩ := bd_some hr
  refine x_sld rfl rfl h271 ?_
  refine x_ldsn rfl rfl rfl ?_
  refine x_b 3 (S2 := (919, [some (.ref am_SB), some (.ref 0), some (.ref 29), some (.ref 46), some (.int x4), none, none], [.int (x4 + 3), .ref am_SB, .int (xs i270), .int (xs i268), .ref 0], (mk B), B.kc, B.kn)) rfl ?_
  obtain ⟨i272, h273, hr⟩ := bd_some hr
  refine x_sld rfl rfl h273 ?_
  refine x_ldsn rfl rfl rfl ?_
  refine x_b 3 (S2 := (925, [some (.ref am_SB), some (.ref 0), some (.ref 29), some (.ref 46), some (.int x4), none, none], [.int (x4 + 4), .ref am_SB, .int (xs i272), .int (xs i270), .int (xs i268), .ref 0], (mk B), B.kc, B.kn)) rfl ?_
  obtain ⟨i274, h275, hr⟩ := bd_some hr
  refine x_sld rfl rfl h275 ?_
  refine x_ldan rfl rfl rfl ((rg_out (W := B)).lt (i := 0) (show 0 < 1 by decide)) ?_
  obtain ⟨⟨v277, B278⟩, h276, hr⟩ := bd_some hr
  refine x_cW (m_273 h276) rfl rfl rfl rfl rfl (by omega) ?_
  refine x_b 1 (S2 := (932, [some (.ref am_SB), some (.ref 0), some (.ref 29), some (.ref 46), some (.int x4), some (.int v277), none], [], (mk B278), B278.kc, B278.kn)) rfl ?_
  refine x_ldan rfl rfl rfl ((rg_md (W := B278)).lt (i := 0) (show 0 < 17 by decide)) ?_
  refine x_ldsn rfl rfl rfl ?_
  refine x_b 3 (S2 := (938, [some (.ref am_SB), some (.ref 0), some (.ref 29), some (.ref 46), some (.int x4), some (.int v277), none], [.int (x4 + 1), .ref am_SB, .ref 29], (mk B278), B278.kc, B278.kn)) rfl ?_
  obtain ⟨i279, h280, hr⟩ := bd_some hr
  refine x_sld rfl rfl h280 ?_
  refine x_ldsn rfl rfl rfl ?_
  refine x_b 3 (S2 := (944, [some (.ref am_SB), some (.ref 0), some (.ref 29), some (.ref 46), some (.int x4), some (.int v277), none], [.int (x4 + 2), .ref am_SB, .int (xs i279), .ref 29], (mk B278), B278.kc, B278.kn)) rfl ?_
  obtain ⟨i281, h282, hr⟩ := bd_some hr
  refine x_sld rfl rfl h282 ?_
  refine x_ldsn rfl rfl rfl ?_
  refine x_b 3 (S2 := (950, [some (.ref am_SB), some (.ref 0), some (.ref 29), some (.ref 46), some (.int x4), some (.int v277), none], [.int (x4 + 3), .ref am_SB, .int (xs i281), .int (xs i279), .ref 29], (mk B278), B278.kc, B278.kn)) rfl ?_
  obtain ⟨i283, h284, hr⟩ := bd_some hr
  refine x_sld rfl rfl h284 ?_
  refine x_ldsn rfl rfl rfl ?_
  refine x_b 3 (S2 := (956, [some (.ref am_SB), some (.ref 0), some (.ref 29), some (.ref 46), some (.int x4), some (.int v277), none], [.int (x4 + 4), .ref am_SB, .int (xs i283), .int (xs i281), .int (xs i279), .ref 29], (mk B278), B278.kc, B278.kn)) rfl ?_
  obtain ⟨i285, h286, hr⟩ := bd_some hr
  refine x_sld rfl rfl h286 ?_
  obtain ⟨⟨v289, o288⟩, h287, hr⟩ := bd_some hr
  obtain ⟨B290, h291, hr⟩ := bd_some hr
  refine x_cW (wc_md (fun H hb hh hH => m_196 hb hh h287) h291) rfl rfl rfl rfl (am_recv_v ((rg_md (W := B278)).lt (i := 0) (show 0 < 17 by decide)) ((rg_md (W := B278)).at (i := 0) rfl) rfl) (by omega) ?_
  refine x_b 1 (S2 := (962, [some (.ref am_SB), some (.ref 0), some (.ref 29), some (.ref 46), some (.int x4), some (.int v277), some (.int v289)], [], (mk B290), B290.kc, B290.kn)) rfl ?_
  refine x_ldan rfl rfl rfl ((rg_md (W := B290)).lt (i := 0) (show 0 < 17 by decide)) ?_
  obtain ⟨v293, h292, hr⟩ := bd_some hr
  refine x_cW (RnW.of0 (m_133 (rg_md (W := B290)) h292) ⟨rfl, rfl⟩) rfl rfl rfl rfl (am_recv_v ((rg_md (W := B290)).lt (i := 0) (show 0 < 17 by decide)) ((rg_md (W := B290)).at (i := 0) rfl) rfl) (by omega) ?_
  refine x_b 1 (S2 := (968, [some (.ref am_SB), some (.ref 0), some (.ref 29), some (.ref 46), some (.int x4), some (.int v277), some (.int v289)], [.int v277, .int v293], (mk B290), B290.kc, B290.kn)) rfl ?_
  rcases ite_some hr with ⟨h294, hr⟩ | ⟨h294, hr⟩
  · refine x_ct rfl rfl (decide_eq_true h294) ?_
    refine x_b 1 (S2 := (975, [some (.ref am_SB), some (.ref 0), some (.ref 29), some (.ref 46), some (.int x4), some (.int v277), some (.int v289)], [.int v277], (mk B290), B290.kc, B290.kn)) rfl ?_
    rcases ite_some hr with ⟨h295, hr⟩ | ⟨h295, hr⟩
    · refine x_zt rfl rfl (decide_eq_true h295) ?_
      refine x_fg (Lq.s (Lq.s (Lq.s (Lq.s (Lq.s (Lq.n (Lq.n Lq.nil))))))) ?_
      exact j_299_23_j990 hd hr ka kx kr
    · refine x_zf rfl rfl (decide_eq_false h295) ?_
      refine x_ldan rfl rfl rfl ((rg_out (W := B290)).lt (i := 0) (show 0 < 1 by decide)) ?_
      refine x_b 1 (S2 := (980, [some (.ref am_SB), some (.ref 0), some (.ref 29), some (.ref 46), some (.int x4), some (.int v277), some (.int v289)], [.int 0, .ref 46], (mk B290), B290.kc, B290.kn)) rfl ?_
      obtain ⟨i296, h297, hr⟩ := bd_some hr
      refine x_lald rfl rfl ((rg_out (W := B290)).lt (i := 0) (show 0 < 1 by decide)) ((rg_out (W := B290)).at (i := 0) rfl) h297 ?_
      refine x_b 3 (S2 := (985, [some (.ref am_SB), some (.ref 0), some (.ref 29), some (.ref 46), some (.int x4), some (.int v277), some (.int v289)], [.int (lg_cmp (B290.out i296) v289.toInt64)], (mk B290), B290.kc, B290.kn)) rfl ?_
      rcases ite_some hr with ⟨h298, hr⟩ | ⟨h298, hr⟩
      · refine x_zt rfl rfl (decide_eq_true h298) ?_
        refine x_fg (Lq.s (Lq.s (Lq.s (Lq.s (Lq.s (Lq.n (Lq.n Lq.nil))))))) ?_
        exact j_299_23_j990 hd hr ka kx kr
      · refine x_zf rfl rfl (decide_eq_false h298) ?_
        refine x_b 1 (S2 := (989, [some (.ref am_SB), some (.ref 0), some (.ref 29), some (.ref 46), some (.int x4), some (.int v277), some (.int v289)], [.int 0], (mk B290), B290.kc, B290.kn)) rfl ?_
        rw [kr _ (Option.some.inj hr).symm]
        exact x_ret rfl rfl (am_ret_z (by decide))
  · refine x_cf rfl rfl (decide_eq_false h294) ?_
    refine x_b 1 (S2 := (972, [some (.ref am_SB), some (.ref 0), some (.ref 29), some (.ref 46), some (.int x4), some (.int v277), some (.int v289)], [.int 0], (mk B290), B290.kc, B290.kn)) rfl ?_
    rw [kr _ (Option.some.inj hr).symm]
    exact x_ret rfl rfl (am_ret_z (by decide))
def J_299_23_j1046 (L : Nat) (xs : Nat → Int32) (B : Wd) (x4 : Int32) : Option ((Int32 × Wd) ⊕ (Wd) ⊕ (Int32 × Wd)) :=
  J_299_23_j2564 L xs B x4
set_option maxRecDepth 200000 in
theorem j_299_23_j1046 {d : Nat} (hd : 11 ≤ d) {L : Nat} {xs : Nat → Int32} {res : ARe} {B : Wd} {x4 : Int32} {o : (Int32 × Wd) ⊕ (Wd) ⊕ (Int32 × Wd)} (hr : J_299_23_j1046 L xs B x4 = some o) (ka : ∀ s, o = .inl s → Ex d am_M299 (some (L, xs)) (P_299_23 L xs s) res) (kx : ∀ s, o = .inr (.inl s) → Ex d am_M299 (some (L, xs)) (PX_299_23 L xs s) res) (kr : ∀ r, o = .inr (.inr r) → res = (.inl (some (.int r.1)), mk r.2, Wd.kc r.2, Wd.kn r.2)) : Ex d am_M299 (some (L, xs)) (1046, [some (.ref am_SB), some (.ref 0), some (.ref 29), some (.ref 46), some (.int x4), none, none], [], (mk B), B.kc, B.kn) res := by
  delta J_299_23_j1046 at hr
  refine x_b 1 (S2 := (2564, [some (.ref am_SB), some (.ref 0), some (.ref 29), some (.ref 46), some (.int x4), none, none], [], (mk B), B.kc, B.kn)) rfl ?_
  refine x_fg (Lq.s (Lq.s (Lq.s (Lq.s (Lq.s (Lq.s (Lq.s Lq.nil))))))) ?_
  exact j_299_23_j2564 hd hr ka kx kr
def J_299_23_j993 (L : Nat) (xs : Nat → Int32) (B : Wd) (x4 : Int32) : Option ((Int32 × Wd) ⊕ (Wd) ⊕ (Int32 × Wd)) :=
  (ix (x4 + 1) L).bind fun i302 =>
  (F_274 B (xs i302)).bind fun (v305, B306) =>
  (ix (x4 + 1) L).bind fun i307 =>
  (F_197 B306.md (xs i307)).bind fun (v311, o310) =>
  (some (B306.w_md o310)).bind fun B312 =>
  (F_133 B312.md).bind fun v315 =>
  if v315 = v305 then
    if ¬ v305 = 0 then
      J_299_23_j1046 L xs B312 x4
    else
      (ix 0 1).bind fun i318 =>
      if (lg_cmp (B312.out i318) v311.toInt64) = 0 then
        J_299_23_j1046 L xs B312 x4
      else
        some (.inr (.inr (0, B312)))
  else
    some (.inr (.inr (0, B312)))
set_option maxRecDepth 200000 in
theorem j_299_23_j993 {d : Nat} (hd : 11 ≤ d) {L : Nat} {xs : Nat → Int32} {res : ARe} {B : Wd} {x4 : Int32} {o : (Int32 × Wd) ⊕ (Wd) ⊕ (Int32 × Wd)} (hr : J_299_23_j993 L xs B x4 = some o) (ka : ∀ s, o = .inl s → Ex d am_M299 (some (L, xs)) (P_299_23 L xs s) res) (kx : ∀ s, o = .inr (.inl s) → Ex d am_M299 (some (L, xs)) (PX_299_23 L xs s) res) (kr : ∀ r, o = .inr (.inr r) → res = (.inl (some (.int r.1)), mk r.2, Wd.kc r.2, Wd.kn r.2)) : Ex d am_M299 (some (L, xs)) (993, [some (.ref am_SB), some (.ref 0), some (.ref 29), some (.ref 46), some (.int x4), none, none], [], (mk B), B.kc, B.kn) res := by
  delta J_299_23_j993 at hr
  refine x_ldan rfl rfl rfl ((rg_pp (W := B)).lt (i := 0) (show 0 < 1 by decide)) ?_
  refine x_ldsn rfl rfl rfl ?_
  refine x_b 3 (S2 := (999, [some (.ref am_SB), some (.ref 0), some (.ref 29), some (.ref 46), some (.int x4), none, none], [.int (x4 + 1), .ref am_SB, .ref 0], (mk B), B.kc, B.kn)) rfl ?_
  obtain ⟨i302, h303, hr⟩ := bd_some hr
  refine x_sld rfl rfl h303 ?_
  refine x_ldan rfl rfl rfl ((rg_out (W := B)).lt (i := 0) (show 0 < 1 by decide)) ?_
  obtain ⟨⟨v305, B306⟩, h304, hr⟩ := bd_some hr
  refine x_cW (m_274 h304) rfl rfl rfl rfl rfl (by omega) ?_
  refine x_b 1 (S2 := (1006, [some (.ref am_SB), some (.ref 0), some (.ref 29), some (.ref 46), some (.int x4), some (.int v305), none], [], (mk B306), B306.kc, B306.kn)) rfl ?_
  refine x_ldan rfl rfl rfl ((rg_md (W := B306)).lt (i := 0) (show 0 < 17 by decide)) ?_
  refine x_ldsn rfl rfl rfl ?_
  refine x_b 3 (S2 := (1012, [some (.ref am_SB), some (.ref 0), some (.ref 29), some (.ref 46), some (.int x4), some (.int v305), none], [.int (x4 + 1), .ref am_SB, .ref 29], (mk B306), B306.kc, B306.kn)) rfl ?_
  obtain ⟨i307, h308, hr⟩ := bd_some hr
  refine x_sld rfl rfl h308 ?_
  obtain ⟨⟨v311, o310⟩, h309, hr⟩ := bd_some hr
  obtain ⟨B312, h313, hr⟩ := bd_some hr
  refine x_cW (wc_md (fun H hb hh hH => m_197 hb hh h309) h313) rfl rfl rfl rfl (am_recv_v ((rg_md (W := B306)).lt (i := 0) (show 0 < 17 by decide)) ((rg_md (W := B306)).at (i := 0) rfl) rfl) (by omega) ?_
  refine x_b 1 (S2 := (1018, [some (.ref am_SB), some (.ref 0), some (.ref 29), some (.ref 46), some (.int x4), some (.int v305), some (.int v311)], [], (mk B312), B312.kc, B312.kn)) rfl ?_
  refine x_ldan rfl rfl rfl ((rg_md (W := B312)).lt (i := 0) (show 0 < 17 by decide)) ?_
  obtain ⟨v315, h314, hr⟩ := bd_some hr
  refine x_cW (RnW.of0 (m_133 (rg_md (W := B312)) h314) ⟨rfl, rfl⟩) rfl rfl rfl rfl (am_recv_v ((rg_md (W := B312)).lt (i := 0) (show 0 < 17 by decide)) ((rg_md (W := B312)).at (i := 0) rfl) rfl) (by omega) ?_
  refine x_b 1 (S2 := (1024, [some (.ref am_SB), some (.ref 0), some (.ref 29), some (.ref 46), some (.int x4), some (.int v305), some (.int v311)], [.int v305, .int v315], (mk B312), B312.kc, B312.kn)) rfl ?_
  rcases ite_some hr with ⟨h316, hr⟩ | ⟨h316, hr⟩
  · refine x_ct rfl rfl (decide_eq_true h316) ?_
    refine x_b 1 (S2 := (1031, [some (.ref am_SB), some (.ref 0), some (.ref 29), some (.ref 46), some (.int x4), some (.int v305), some (.int v311)], [.int v305], (mk B312), B312.kc, B312.kn)) rfl ?_
    rcases ite_some hr with ⟨h317, hr⟩ | ⟨h317, hr⟩
    · refine x_zt rfl rfl (decide_eq_true h317) ?_
      refine x_fg (Lq.s (Lq.s (Lq.s (Lq.s (Lq.s (Lq.n (Lq.n Lq.nil))))))) ?_
      exact j_299_23_j1046 hd hr ka kx kr
    · refine x_zf rfl rfl (decide_eq_false h317) ?_
      refine x_ldan rfl rfl rfl ((rg_out (W := B312)).lt (i := 0) (show 0 < 1 by decide)) ?_
      refine x_b 1 (S2 := (1036, [some (.ref am_SB), some (.ref 0), some (.ref 29), some (.ref 46), some (.int x4), some (.int v305), some (.int v311)], [.int 0, .ref 46], (mk B312), B312.kc, B312.kn)) rfl ?_
      obtain ⟨i318, h319, hr⟩ := bd_some hr
      refine x_lald rfl rfl ((rg_out (W := B312)).lt (i := 0) (show 0 < 1 by decide)) ((rg_out (W := B312)).at (i := 0) rfl) h319 ?_
      refine x_b 3 (S2 := (1041, [some (.ref am_SB), some (.ref 0), some (.ref 29), some (.ref 46), some (.int x4), some (.int v305), some (.int v311)], [.int (lg_cmp (B312.out i318) v311.toInt64)], (mk B312), B312.kc, B312.kn)) rfl ?_
      rcases ite_some hr with ⟨h320, hr⟩ | ⟨h320, hr⟩
      · refine x_zt rfl rfl (decide_eq_true h320) ?_
        refine x_fg (Lq.s (Lq.s (Lq.s (Lq.s (Lq.s (Lq.n (Lq.n Lq.nil))))))) ?_
        exact j_299_23_j1046 hd hr ka kx kr
      · refine x_zf rfl rfl (decide_eq_false h320) ?_
        refine x_b 1 (S2 := (1045, [some (.ref am_SB), some (.ref 0), some (.ref 29), some (.ref 46), some (.int x4), some (.int v305), some (.int v311)], [.int 0], (mk B312), B312.kc, B312.kn)) rfl ?_
        rw [kr _ (Option.some.inj hr).symm]
        exact x_ret rfl rfl (am_ret_z (by decide))
  · refine x_cf rfl rfl (decide_eq_false h316) ?_
    refine x_b 1 (S2 := (1028, [some (.ref am_SB), some (.ref 0), some (.ref 29), some (.ref 46), some (.int x4), some (.int v305), some (.int v311)], [.int 0], (mk B312), B312.kc, B312.kn)) rfl ?_
    rw [kr _ (Option.some.inj hr).symm]
    exact x_ret rfl rfl (am_ret_z (by decide))
def J_299_23_j1090 (L : Nat) (xs : Nat → Int32) (B : Wd) (x4 : Int32) : Option ((Int32 × Wd) ⊕ (Wd) ⊕ (Int32 × Wd)) :=
  J_299_23_j2564 L xs B x4
set_option maxRecDepth 200000 in
theorem j_299_23_j1090 {d : Nat} (hd : 11 ≤ d) {L : Nat} {xs : Nat → Int32} {res : ARe} {B : Wd} {x4 : Int32} {o : (Int32 × Wd) ⊕ (Wd) ⊕ (Int32 × Wd)} (hr : J_299_23_j1090 L xs B x4 = some o) (ka : ∀ s, o = .inl s → Ex d am_M299 (some (L, xs)) (P_299_23 L xs s) res) (kx : ∀ s, o = .inr (.inl s) → Ex d am_M299 (some (L, xs)) (PX_299_23 L xs s) res) (kr : ∀ r, o = .inr (.inr r) → res = (.inl (some (.int r.1)), mk r.2, Wd.kc r.2, Wd.kn r.2)) : Ex d am_M299 (some (L, xs)) (1090, [some (.ref am_SB), some (.ref 0), some (.ref 29), some (.ref 46), some (.int x4), none, none], [], (mk B), B.kc, B.kn) res := by
  delta J_299_23_j1090 at hr
  refine x_b 1 (S2 := (2564, [some (.ref am_SB), some (.ref 0), some (.ref 29), some (.ref 46), some (.int x4), none, none], [], (mk B), B.kc, B.kn)) rfl ?_
  refine x_fg (Lq.s (Lq.s (Lq.s (Lq.s (Lq.s (Lq.s (Lq.s Lq.nil))))))) ?_
  exact j_299_23_j2564 hd hr ka kx kr
def J_299_23_j1049 (L : Nat) (xs : Nat → Int32) (B : Wd) (x4 : Int32) : Option ((Int32 × Wd) ⊕ (Wd) ⊕ (Int32 × Wd)) :=
  (F_275 B).bind fun (v325, B326) =>
  (F_167 B326.md).bind fun (v329, o328) =>
  (some (B326.w_md o328)).bind fun B330 =>
  (F_133 B330.md).bind fun v333 =>
  if v333 = v325 then
    if ¬ v325 = 0 then
      J_299_23_j1090 L xs B330 x4
    else
      (ix 0 1).bind fun i336 =>
      if (lg_cmp (B330.out i336) v329.toInt64) = 0 then
        J_299_23_j1090 L xs B330 x4
      else
        some (.inr (.inr (0, B330)))
  else
    some (.inr (.inr (0, B330)))
set_option maxRecDepth 200000 in
theorem j_299_23_j1049 {d : Nat} (hd : 11 ≤ d) {L : Nat} {xs : Nat → Int32} {res : ARe} {B : Wd} {x4 : Int32} {o : (Int32 × Wd) ⊕ (Wd) ⊕ (Int32 × Wd)} (hr : J_299_23_j1049 L xs B x4 = some o) (ka : ∀ s, o = .inl s → Ex d am_M299 (some (L, xs)) (P_299_23 L xs s) res) (kx : ∀ s, o = .inr (.inl s) → Ex d am_M299 (some (L, xs)) (PX_299_23 L xs s) res) (kr : ∀ r, o = .inr (.inr r) → res = (.inl (some (.int r.1)), mk r.2, Wd.kc r.2, Wd.kn r.2)) : Ex d am_M299 (some (L, xs)) (1049, [some (.ref am_SB), some (.ref 0), some (.ref 29), some (.ref 46), some (.int x4), none, none], [], (mk B), B.kc, B.kn) res := by
  delta J_299_23_j1049 at hr
  refine x_ldan rfl rfl rfl ((rg_pp (W := B)).lt (i := 0) (show 0 < 1 by decide)) ?_
  refine x_ldan rfl rfl rfl ((rg_out (W := B)).lt (i := 0) (show 0 < 1 by decide)) ?_
  obtain ⟨⟨v325, B326⟩, h324, hr⟩ := bd_some hr
  refine x_cW (m_275 h324) rfl rfl rfl rfl rfl (by omega) ?_
  refine x_b 1 (S2 := (1056, [some (.ref am_SB), some (.ref 0), some (.ref 29), some (.ref 46), some (.int x4), some (.int v325), none], [], (mk B326), B326.kc, B326.kn)) rfl ?_
  refine x_ldan rfl rfl rfl ((rg_md (W := B326)).lt (i := 0) (show 0 < 17 by decide)) ?_
  obtain ⟨⟨v329, o328⟩, h327, hr⟩ := bd_some hr
  obtain ⟨B330, h331, hr⟩ := bd_some hr
  refine x_cW (wc_md (fun H hb hh hH => m_167 hb hh h327) h331) rfl rfl rfl rfl (am_recv_v ((rg_md (W := B326)).lt (i := 0) (show 0 < 17 by decide)) ((rg_md (W := B326)).at (i := 0) rfl) rfl) (by omega) ?_
  refine x_b 1 (S2 := (1062, [some (.ref am_SB), some (.ref 0), some (.ref 29), some (.ref 46), some (.int x4), some (.int v325), some (.int v329)], [], (mk B330), B330.kc, B330.kn)) rfl ?_
  refine x_ldan rfl rfl rfl ((rg_md (W := B330)).lt (i := 0) (show 0 < 17 by decide)) ?_
  obtain ⟨v333, h332, hr⟩ := bd_some hr
  refine x_cW (RnW.of0 (m_133 (rg_md (W := B330)) h332) ⟨rfl, rfl⟩) rfl rfl rfl rfl (am_recv_v ((rg_md (W := B330)).lt (i := 0) (show 0 < 17 by decide)) ((rg_md (W := B330)).at (i := 0) rfl) rfl) (by omega) ?_
  refine x_b 1 (S2 := (1068, [some (.ref am_SB), some (.ref 0), some (.ref 29), some (.ref 46), some (.int x4), some (.int v325), some (.int v329)], [.int v325, .int v333], (mk B330), B330.kc, B330.kn)) rfl ?_
  rcases ite_some hr with ⟨h334, hr⟩ | ⟨h334, hr⟩
  · refine x_ct rfl rfl (decide_eq_true h334) ?_
    refine x_b 1 (S2 := (1075, [some (.ref am_SB), some (.ref 0), some (.ref 29), some (.ref 46), some (.int x4), some (.int v325), some (.int v329)], [.int v325], (mk B330), B330.kc, B330.kn)) rfl ?_
    rcases ite_some hr with ⟨h335, hr⟩ | ⟨h335, hr⟩
    · refine x_zt rfl rfl (decide_eq_true h335) ?_
      refine x_fg (Lq.s (Lq.s (Lq.s (Lq.s (Lq.s (Lq.n (Lq.n Lq.nil))))))) ?_
      exact j_299_23_j1090 hd hr ka kx kr
    · refine x_zf rfl rfl (decide_eq_false h335) ?_
      refine x_ldan rfl rfl rfl ((rg_out (W := B330)).lt (i := 0) (show 0 < 1 by decide)) ?_
      refine x_b 1 (S2 := (1080, [some (.ref am_SB), some (.ref 0), some (.ref 29), some (.ref 46), some (.int x4), some (.int v325), some (.int v329)], [.int 0, .ref 46], (mk B330), B330.kc, B330.kn)) rfl ?_
      obtain ⟨i336, h337, hr⟩ := bd_some hr
      refine x_lald rfl rfl ((rg_out (W := B330)).lt (i := 0) (show 0 < 1 by decide)) ((rg_out (W := B330)).at (i := 0) rfl) h337 ?_
      refine x_b 3 (S2 := (1085, [some (.ref am_SB), some (.ref 0), some (.ref 29), some (.ref 46), some (.int x4), some (.int v325), some (.int v329)], [.int (lg_cmp (B330.out i336) v329.toInt64)], (mk B330), B330.kc, B330.kn)) rfl ?_
      rcases ite_some hr with ⟨h338, hr⟩ | ⟨h338, hr⟩
      · refine x_zt rfl rfl (decide_eq_true h338) ?_
        refine x_fg (Lq.s (Lq.s (Lq.s (Lq.s (Lq.s (Lq.n (Lq.n Lq.nil))))))) ?_
        exact j_299_23_j1090 hd hr ka kx kr
      · refine x_zf rfl rfl (decide_eq_false h338) ?_
        refine x_b 1 (S2 := (1089, [some (.ref am_SB), some (.ref 0), some (.ref 29), some (.ref 46), some (.int x4), some (.int v325), some (.int v329)], [.int 0], (mk B330), B330.kc, B330.kn)) rfl ?_
        rw [kr _ (Option.some.inj hr).symm]
        exact x_ret rfl rfl (am_ret_z (by decide))
  · refine x_cf rfl rfl (decide_eq_false h334) ?_
    refine x_b 1 (S2 := (1072, [some (.ref am_SB), some (.ref 0), some (.ref 29), some (.ref 46), some (.int x4), some (.int v325), some (.int v329)], [.int 0], (mk B330), B330.kc, B330.kn)) rfl ?_
    rw [kr _ (Option.some.inj hr).symm]
    exact x_ret rfl rfl (am_ret_z (by decide))
def J_299_23_j1093 (L : Nat) (xs : Nat → Int32) (B : Wd) (x4 : Int32) : Option ((Int32 × Wd) ⊕ (Wd) ⊕ (Int32 × Wd)) :=
  (F_94 B).bind fun v343 =>
  (F_168 B.md).bind fun (v346, o345) =>
  (some (B.w_md o345)).bind fun B347 =>
  if v343 = v346 then
    J_299_23_j2564 L xs B347 x4
  else
    some (.inr (.inr (0, B347)))
set_option maxRecDepth 200000 in
theorem j_299_23_j1093 {d : Nat} (hd : 11 ≤ d) {L : Nat} {xs : Nat → Int32} {res : ARe} {B : Wd} {x4 : Int32} {o : (Int32 × Wd) ⊕ (Wd) ⊕ (Int32 × Wd)} (hr : J_299_23_j1093 L xs B x4 = some o) (ka : ∀ s, o = .inl s → Ex d am_M299 (some (L, xs)) (P_299_23 L xs s) res) (kx : ∀ s, o = .inr (.inl s) → Ex d am_M299 (some (L, xs)) (PX_299_23 L xs s) res) (kr : ∀ r, o = .inr (.inr r) → res = (.inl (some (.int r.1)), mk r.2, Wd.kc r.2, Wd.kn r.2)) : Ex d am_M299 (some (L, xs)) (1093, [some (.ref am_SB), some (.ref 0), some (.ref 29), some (.ref 46), some (.int x4), none, none], [], (mk B), B.kc, B.kn) res := by
  delta J_299_23_j1093 at hr
  refine x_ldan rfl rfl rfl ((rg_pp (W := B)).lt (i := 0) (show 0 < 1 by decide)) ?_
  obtain ⟨v343, h342, hr⟩ := bd_some hr
  refine x_cW (m_94 h342) rfl rfl rfl rfl (am_recv_v ((rg_pp (W := B)).lt (i := 0) (show 0 < 1 by decide)) ((rg_pp (W := B)).at (i := 0) rfl) rfl) (by omega) ?_
  refine x_ldan rfl rfl rfl ((rg_md (W := B)).lt (i := 0) (show 0 < 17 by decide)) ?_
  obtain ⟨⟨v346, o345⟩, h344, hr⟩ := bd_some hr
  obtain ⟨B347, h348, hr⟩ := bd_some hr
  refine x_cW (wc_md (fun H hb hh hH => m_168 hb hh h344) h348) rfl rfl rfl rfl (am_recv_v ((rg_md (W := B)).lt (i := 0) (show 0 < 17 by decide)) ((rg_md (W := B)).at (i := 0) rfl) rfl) (by omega) ?_
  rcases ite_some hr with ⟨h349, hr⟩ | ⟨h349, hr⟩
  · refine x_ct rfl rfl (decide_eq_true h349) ?_
    refine x_fg (Lq.s (Lq.s (Lq.s (Lq.s (Lq.s (Lq.s (Lq.s Lq.nil))))))) ?_
    exact j_299_23_j2564 hd hr ka kx kr
  · refine x_cf rfl rfl (decide_eq_false h349) ?_
    refine x_b 1 (S2 := (1105, [some (.ref am_SB), some (.ref 0), some (.ref 29), some (.ref 46), some (.int x4), none, none], [.int 0], (mk B347), B347.kc, B347.kn)) rfl ?_
    rw [kr _ (Option.some.inj hr).symm]
    exact x_ret rfl rfl (am_ret_z (by decide))
def J_299_23_j1106 (L : Nat) (xs : Nat → Int32) (B : Wd) (x4 : Int32) : Option ((Int32 × Wd) ⊕ (Wd) ⊕ (Int32 × Wd)) :=
  (F_95 B).bind fun (v353, B354) =>
  (F_169 B354.md).bind fun (v357, o356) =>
  (some (B354.w_md o356)).bind fun B358 =>
  if v353 = v357 then
    J_299_23_j2564 L xs B358 x4
  else
    some (.inr (.inr (0, B358)))
set_option maxRecDepth 200000 in
theorem j_299_23_j1106 {d : Nat} (hd : 11 ≤ d) {L : Nat} {xs : Nat → Int32} {res : ARe} {B : Wd} {x4 : Int32} {o : (Int32 × Wd) ⊕ (Wd) ⊕ (Int32 × Wd)} (hr : J_299_23_j1106 L xs B x4 = some o) (ka : ∀ s, o = .inl s → Ex d am_M299 (some (L, xs)) (P_299_23 L xs s) res) (kx : ∀ s, o = .inr (.inl s) → Ex d am_M299 (some (L, xs)) (PX_299_23 L xs s) res) (kr : ∀ r, o = .inr (.inr r) → res = (.inl (some (.int r.1)), mk r.2, Wd.kc r.2, Wd.kn r.2)) : Ex d am_M299 (some (L, xs)) (1106, [some (.ref am_SB), some (.ref 0), some (.ref 29), some (.ref 46), some (.int x4), none, none], [], (mk B), B.kc, B.kn) res := by
  delta J_299_23_j1106 at hr
  refine x_ldan rfl rfl rfl ((rg_pp (W := B)).lt (i := 0) (show 0 < 1 by decide)) ?_
  obtain ⟨⟨v353, B354⟩, h352, hr⟩ := bd_some hr
  refine x_cW (m_95 h352) rfl rfl rfl rfl (am_recv_v ((rg_pp (W := B)).lt (i := 0) (show 0 < 1 by decide)) ((rg_pp (W := B)).at (i := 0) rfl) rfl) (by omega) ?_
  refine x_ldan rfl rfl rfl ((rg_md (W := B354)).lt (i := 0) (show 0 < 17 by decide)) ?_
  obtain ⟨⟨v357, o356⟩, h355, hr⟩ := bd_some hr
  obtain ⟨B358, h359, hr⟩ := bd_some hr
  refine x_cW (wc_md (fun H hb hh hH => m_169 hb hh h355) h359) rfl rfl rfl rfl (am_recv_v ((rg_md (W := B354)).lt (i := 0) (show 0 < 17 by decide)) ((rg_md (W := B354)).at (i := 0) rfl) rfl) (by omega) ?_
  rcases ite_some hr with ⟨h360, hr⟩ | ⟨h360, hr⟩
  · refine x_ct rfl rfl (decide_eq_true h360) ?_
    refine x_fg (Lq.s (Lq.s (Lq.s (Lq.s (Lq.s (Lq.s (Lq.s Lq.nil))))))) ?_
    exact j_299_23_j2564 hd hr ka kx kr
  · refine x_cf rfl rfl (decide_eq_false h360) ?_
    refine x_b 1 (S2 := (1118, [some (.ref am_SB), some (.ref 0), some (.ref 29), some (.ref 46), some (.int x4), none, none], [.int 0], (mk B358), B358.kc, B358.kn)) rfl ?_
    rw [kr _ (Option.some.inj hr).symm]
    exact x_ret rfl rfl (am_ret_z (by decide))
def J_299_23_j1160 (L : Nat) (xs : Nat → Int32) (B : Wd) (x4 : Int32) : Option ((Int32 × Wd) ⊕ (Wd) ⊕ (Int32 × Wd)) :=
  J_299_23_j2564 L xs B x4
set_option maxRecDepth 200000 in
theorem j_299_23_j1160 {d : Nat} (hd : 11 ≤ d) {L : Nat} {xs : Nat → Int32} {res : ARe} {B : Wd} {x4 : Int32} {o : (Int32 × Wd) ⊕ (Wd) ⊕ (Int32 × Wd)} (hr : J_299_23_j1160 L xs B x4 = some o) (ka : ∀ s, o = .inl s → Ex d am_M299 (some (L, xs)) (P_299_23 L xs s) res) (kx : ∀ s, o = .inr (.inl s) → Ex d am_M299 (some (L, xs)) (PX_299_23 L xs s) res) (kr : ∀ r, o = .inr (.inr r) → res = (.inl (some (.int r.1)), mk r.2, Wd.kc r.2, Wd.kn r.2)) : Ex d am_M299 (some (L, xs)) (1160, [some (.ref am_SB), some (.ref 0), some (.ref 29), some (.ref 46), some (.int x4), none, none], [], (mk B), B.kc, B.kn) res := by
  delta J_299_23_j1160 at hr
  refine x_b 1 (S2 := (2564, [some (.ref am_SB), some (.ref 0), some (.ref 29), some (.ref 46), some (.int x4), none, none], [], (mk B), B.kc, B.kn)) rfl ?_
  refine x_fg (Lq.s (Lq.s (Lq.s (Lq.s (Lq.s (Lq.s (Lq.s Lq.nil))))))) ?_
  exact j_299_23_j2564 hd hr ka kx kr
def J_299_23_j1119 (L : Nat) (xs : Nat → Int32) (B : Wd) (x4 : Int32) : Option ((Int32 × Wd) ⊕ (Wd) ⊕ (Int32 × Wd)) :=
  (F_276 B).bind fun (v364, B365) =>
  (F_170 B365.md).bind fun (v368, o367) =>
  (some (B365.w_md o367)).bind fun B369 =>
  (F_133 B369.md).bind fun v372 =>
  if v372 = v364 then
    if ¬ v364 = 0 then
      J_299_23_j1160 L xs B369 x4
    else
      (ix 0 1).bind fun i375 =>
      if (lg_cmp (B369.out i375) v368.toInt64) = 0 then
        J_299_23_j1160 L xs B369 x4
      else
        some (.inr (.inr (0, B369)))
  else
    some (.inr (.inr (0, B369)))
set_option maxRecDepth 200000 in
theorem j_299_23_j1119 {d : Nat} (hd : 11 ≤ d) {L : Nat} {xs : Nat → Int32} {res : ARe} {B : Wd} {x4 : Int32} {o : (Int32 × Wd) ⊕ (Wd) ⊕ (Int32 × Wd)} (hr : J_299_23_j1119 L xs B x4 = some o) (ka : ∀ s, o = .inl s → Ex d am_M299 (some (L, xs)) (P_299_23 L xs s) res) (kx : ∀ s, o = .inr (.inl s) → Ex d am_M299 (some (L, xs)) (PX_299_23 L xs s) res) (kr : ∀ r, o = .inr (.inr r) → res = (.inl (some (.int r.1)), mk r.2, Wd.kc r.2, Wd.kn r.2)) : Ex d am_M299 (some (L, xs)) (1119, [some (.ref am_SB), some (.ref 0), some (.ref 29), some (.ref 46), some (.int x4), none, none], [], (mk B), B.kc, B.kn) res := by
  delta J_299_23_j1119 at hr
  refine x_ldan rfl rfl rfl ((rg_pp (W := B)).lt (i := 0) (show 0 < 1 by decide)) ?_
  refine x_ldan rfl rfl rfl ((rg_out (W := B)).lt (i := 0) (show 0 < 1 by decide)) ?_
  obtain ⟨⟨v364, B365⟩, h363, hr⟩ := bd_some hr
  refine x_cW (m_276 h363) rfl rfl rfl rfl rfl (by omega) ?_
  refine x_b 1 (S2 := (1126, [some (.ref am_SB), some (.ref 0), some (.ref 29), some (.ref 46), some (.int x4), some (.int v364), none], [], (mk B365), B365.kc, B365.kn)) rfl ?_
  refine x_ldan rfl rfl rfl ((rg_md (W := B365)).lt (i := 0) (show 0 < 17 by decide)) ?_
  obtain ⟨⟨v368, o367⟩, h366, hr⟩ := bd_some hr
  obtain ⟨B369, h370, hr⟩ := bd_some hr
  refine x_cW (wc_md (fun H hb hh hH => m_170 hb hh h366) h370) rfl rfl rfl rfl (am_recv_v ((rg_md (W := B365)).lt (i := 0) (show 0 < 17 by decide)) ((rg_md (W := B365)).at (i := 0) rfl) rfl) (by omega) ?_
  refine x_b 1 (S2 := (1132, [some (.ref am_SB), some (.ref 0), some (.ref 29), some (.ref 46), some (.int x4), some (.int v364), some (.int v368)], [], (mk B369), B369.kc, B369.kn)) rfl ?_
  refine x_ldan rfl rfl rfl ((rg_md (W := B369)).lt (i := 0) (show 0 < 17 by decide)) ?_
  obtain ⟨v372, h371, hr⟩ := bd_some hr
  refine x_cW (RnW.of0 (m_133 (rg_md (W := B369)) h371) ⟨rfl, rfl⟩) rfl rfl rfl rfl (am_recv_v ((rg_md (W := B369)).lt (i := 0) (show 0 < 17 by decide)) ((rg_md (W := B369)).at (i := 0) rfl) rfl) (by omega) ?_
  refine x_b 1 (S2 := (1138, [some (.ref am_SB), some (.ref 0), some (.ref 29), some (.ref 46), some (.int x4), some (.int v364), some (.int v368)], [.int v364, .int v372], (mk B369), B369.kc, B369.kn)) rfl ?_
  rcases ite_some hr with ⟨h373, hr⟩ | ⟨h373, hr⟩
  · refine x_ct rfl rfl (decide_eq_true h373) ?_
    refine x_b 1 (S2 := (1145, [some (.ref am_SB), some (.ref 0), some (.ref 29), some (.ref 46), some (.int x4), some (.int v364), some (.int v368)], [.int v364], (mk B369), B369.kc, B369.kn)) rfl ?_
    rcases ite_some hr with ⟨h374, hr⟩ | ⟨h374, hr⟩
    · refine x_zt rfl rfl (decide_eq_true h374) ?_
      refine x_fg (Lq.s (Lq.s (Lq.s (Lq.s (Lq.s (Lq.n (Lq.n Lq.nil))))))) ?_
      exact j_299_23_j1160 hd hr ka kx kr
    · refine x_zf rfl rfl (decide_eq_false h374) ?_
      refine x_ldan rfl rfl rfl ((rg_out (W := B369)).lt (i := 0) (show 0 < 1 by decide)) ?_
      refine x_b 1 (S2 := (1150, [some (.ref am_SB), some (.ref 0), some (.ref 29), some (.ref 46), some (.int x4), some (.int v364), some (.int v368)], [.int 0, .ref 46], (mk B369), B369.kc, B369.kn)) rfl ?_
      obtain ⟨i375, h376, hr⟩ := bd_some hr
      refine x_lald rfl rfl ((rg_out (W := B369)).lt (i := 0) (show 0 < 1 by decide)) ((rg_out (W := B369)).at (i := 0) rfl) h376 ?_
      refine x_b 3 (S2 := (1155, [some (.ref am_SB), some (.ref 0), some (.ref 29), some (.ref 46), some (.int x4), some (.int v364), some (.int v368)], [.int (lg_cmp (B369.out i375) v368.toInt64)], (mk B369), B369.kc, B369.kn)) rfl ?_
      rcases ite_some hr with ⟨h377, hr⟩ | ⟨h377, hr⟩
      · refine x_zt rfl rfl (decide_eq_true h377) ?_
        refine x_fg (Lq.s (Lq.s (Lq.s (Lq.s (Lq.s (Lq.n (Lq.n Lq.nil))))))) ?_
        exact j_299_23_j1160 hd hr ka kx kr
      · refine x_zf rfl rfl (decide_eq_false h377) ?_
        refine x_b 1 (S2 := (1159, [some (.ref am_SB), some (.ref 0), some (.ref 29), some (.ref 46), some (.int x4), some (.int v364), some (.int v368)], [.int 0], (mk B369), B369.kc, B369.kn)) rfl ?_
        rw [kr _ (Option.some.inj hr).symm]
        exact x_ret rfl rfl (am_ret_z (by decide))
  · refine x_cf rfl rfl (decide_eq_false h373) ?_
    refine x_b 1 (S2 := (1142, [some (.ref am_SB), some (.ref 0), some (.ref 29), some (.ref 46), some (.int x4), some (.int v364), some (.int v368)], [.int 0], (mk B369), B369.kc, B369.kn)) rfl ?_
    rw [kr _ (Option.some.inj hr).symm]
    exact x_ret rfl rfl (am_ret_z (by decide))
def J_299_23_j1163 (L : Nat) (xs : Nat → Int32) (B : Wd) (x4 : Int32) : Option ((Int32 × Wd) ⊕ (Wd) ⊕ (Int32 × Wd)) :=
  (F_97 B).bind fun v382 =>
  (F_171 B.md).bind fun (v385, o384) =>
  (some (B.w_md o384)).bind fun B386 =>
  if v382 = v385 then
    J_299_23_j2564 L xs B386 x4
  else
    some (.inr (.inr (0, B386)))
set_option maxRecDepth 200000 in
theorem j_299_23_j1163 {d : Nat} (hd : 11 ≤ d) {L : Nat} {xs : Nat → Int32} {res : ARe} {B : Wd} {x4 : Int32} {o : (Int32 × Wd) ⊕ (Wd) ⊕ (Int32 × Wd)} (hr : J_299_23_j1163 L xs B x4 = some o) (ka : ∀ s, o = .inl s → Ex d am_M299 (some (L, xs)) (P_299_23 L xs s) res) (kx : ∀ s, o = .inr (.inl s) → Ex d am_M299 (some (L, xs)) (PX_299_23 L xs s) res) (kr : ∀ r, o = .inr (.inr r) → res = (.inl (some (.int r.1)), mk r.2, Wd.kc r.2, Wd.kn r.2)) : Ex d am_M299 (some (L, xs)) (1163, [some (.ref am_SB), some (.ref 0), some (.ref 29), some (.ref 46), some (.int x4), none, none], [], (mk B), B.kc, B.kn) res := by
  delta J_299_23_j1163 at hr
  refine x_ldan rfl rfl rfl ((rg_pp (W := B)).lt (i := 0) (show 0 < 1 by decide)) ?_
  obtain ⟨v382, h381, hr⟩ := bd_some hr
  refine x_cW (m_97 h381) rfl rfl rfl rfl (am_recv_v ((rg_pp (W := B)).lt (i := 0) (show 0 < 1 by decide)) ((rg_pp (W := B)).at (i := 0) rfl) rfl) (by omega) ?_
  refine x_ldan rfl rfl rfl ((rg_md (W := B)).lt (i := 0) (show 0 < 17 by decide)) ?_
  obtain ⟨⟨v385, o384⟩, h383, hr⟩ := bd_some hr
  obtain ⟨B386, h387, hr⟩ := bd_some hr
  refine x_cW (wc_md (fun H hb hh hH => m_171 hb hh h383) h387) rfl rfl rfl rfl (am_recv_v ((rg_md (W := B)).lt (i := 0) (show 0 < 17 by decide)) ((rg_md (W := B)).at (i := 0) rfl) rfl) (by omega) ?_
  rcases ite_some hr with ⟨h388, hr⟩ | ⟨h388, hr⟩
  · refine x_ct rfl rfl (decide_eq_true h388) ?_
    refine x_fg (Lq.s (Lq.s (Lq.s (Lq.s (Lq.s (Lq.s (Lq.s Lq.nil))))))) ?_
    exact j_299_23_j2564 hd hr ka kx kr
  · refine x_cf rfl rfl (decide_eq_false h388) ?_
    refine x_b 1 (S2 := (1175, [some (.ref am_SB), some (.ref 0), some (.ref 29), some (.ref 46), some (.int x4), none, none], [.int 0], (mk B386), B386.kc, B386.kn)) rfl ?_
    rw [kr _ (Option.some.inj hr).symm]
    exact x_ret rfl rfl (am_ret_z (by decide))
def J_299_23_j1229 (L : Nat) (xs : Nat → Int32) (B : Wd) (x4 : Int32) : Option ((Int32 × Wd) ⊕ (Wd) ⊕ (Int32 × Wd)) :=
  J_299_23_j2564 L xs B x4
set_option maxRecDepth 200000 in
theorem j_299_23_j1229 {d : Nat} (hd : 11 ≤ d) {L : Nat} {xs : Nat → Int32} {res : ARe} {B : Wd} {x4 : Int32} {o : (Int32 × Wd) ⊕ (Wd) ⊕ (Int32 × Wd)} (hr : J_299_23_j1229 L xs B x4 = some o) (ka : ∀ s, o = .inl s → Ex d am_M299 (some (L, xs)) (P_299_23 L xs s) res) (kx : ∀ s, o = .inr (.inl s) → Ex d am_M299 (some (L, xs)) (PX_299_23 L xs s) res) (kr : ∀ r, o = .inr (.inr r) → res = (.inl (some (.int r.1)), mk r.2, Wd.kc r.2, Wd.kn r.2)) : Ex d am_M299 (some (L, xs)) (1229, [some (.ref am_SB), some (.ref 0), some (.ref 29), some (.ref 46), some (.int x4), none, none], [], (mk B), B.kc, B.kn) res := by
  delta J_299_23_j1229 at hr
  refine x_b 1 (S2 := (2564, [some (.ref am_SB), some (.ref 0), some (.ref 29), some (.ref 46), some (.int x4), none, none], [], (mk B), B.kc, B.kn)) rfl ?_
  refine x_fg (Lq.s (Lq.s (Lq.s (Lq.s (Lq.s (Lq.s (Lq.s Lq.nil))))))) ?_
  exact j_299_23_j2564 hd hr ka kx kr
def J_299_23_j1176 (L : Nat) (xs : Nat → Int32) (B : Wd) (x4 : Int32) : Option ((Int32 × Wd) ⊕ (Wd) ⊕ (Int32 × Wd)) :=
  (ix (x4 + 1) L).bind fun i391 =>
  (F_277 B (xs i391)).bind fun (v394, B395) =>
  (ix (x4 + 1) L).bind fun i396 =>
  (F_199 B395.md (xs i396)).bind fun (v400, o399) =>
  (some (B395.w_md o399)).bind fun B401 =>
  (F_133 B401.md).bind fun v404 =>
  if v404 = v394 then
    if ¬ v394 = 0 then
      J_299_23_j1229 L xs B401 x4
    else
      (ix 0 1).bind fun i407 =>
      if (lg_cmp (B401.out i407) v400.toInt64) = 0 then
        J_299_23_j1229 L xs B401 x4
      else
        some (.inr (.inr (0, B401)))
  else
    some (.inr (.inr (0, B401)))
set_option maxRecDepth 200000 in
theorem j_299_23_j1176 {d : Nat} (hd : 11 ≤ d) {L : Nat} {xs : Nat → Int32} {res : ARe} {B : Wd} {x4 : Int32} {o : (Int32 × Wd) ⊕ (Wd) ⊕ (Int32 × Wd)} (hr : J_299_23_j1176 L xs B x4 = some o) (ka : ∀ s, o = .inl s → Ex d am_M299 (some (L, xs)) (P_299_23 L xs s) res) (kx : ∀ s, o = .inr (.inl s) → Ex d am_M299 (some (L, xs)) (PX_299_23 L xs s) res) (kr : ∀ r, o = .inr (.inr r) → res = (.inl (some (.int r.1)), mk r.2, Wd.kc r.2, Wd.kn r.2)) : Ex d am_M299 (some (L, xs)) (1176, [some (.ref am_SB), some (.ref 0), some (.ref 29), some (.ref 46), some (.int x4), none, none], [], (mk B), B.kc, B.kn) res := by
  delta J_299_23_j1176 at hr
  refine x_ldan rfl rfl rfl ((rg_pp (W := B)).lt (i := 0) (show 0 < 1 by decide)) ?_
  refine x_ldsn rfl rfl rfl ?_
  refine x_b 3 (S2 := (1182, [some (.ref am_SB), some (.ref 0), some (.ref 29), some (.ref 46), some (.int x4), none, none], [.int (x4 + 1), .ref am_SB, .ref 0], (mk B), B.kc, B.kn)) rfl ?_
  obtain ⟨i391, h392, hr⟩ := bd_some hr
  refine x_sld rfl rfl h392 ?_
  refine x_ldan rfl rfl rfl ((rg_out (W := B)).lt (i := 0) (show 0 < 1 by decide)) ?_
  obtain ⟨⟨v394, B395⟩, h393, hr⟩ := bd_some hr
  refine x_cW (m_277 h393) rfl rfl rfl rfl rfl (by omega) ?_
  refine x_b 1 (S2 := (1189, [some (.ref am_SB), some (.ref 0), some (.ref 29), some (.ref 46), some (.int x4), some (.int v394), none], [], (mk B395), B395.kc, B395.kn)) rfl ?_
  refine x_ldan rfl rfl rfl ((rg_md (W := B395)).lt (i := 0) (show 0 < 17 by decide)) ?_
  refine x_ldsn rfl rfl rfl ?_
  refine x_b 3 (S2 := (1195, [some (.ref am_SB), some (.ref 0), some (.ref 29), some (.ref 46), some (.int x4), some (.int v394), none], [.int (x4 + 1), .ref am_SB, .ref 29], (mk B395), B395.kc, B395.kn)) rfl ?_
  obtain ⟨i396, h397, hr⟩ := bd_some hr
  refine x_sld rfl rfl h397 ?_
  obtain ⟨⟨v400, o399⟩, h398, hr⟩ := bd_some hr
  obtain ⟨B401, h402, hr⟩ := bd_some hr
  refine x_cW (wc_md (fun H hb hh hH => m_199 hb hh h398) h402) rfl rfl rfl rfl (am_recv_v ((rg_md (W := B395)).lt (i := 0) (show 0 < 17 by decide)) ((rg_md (W := B395)).at (i := 0) rfl) rfl) (by omega) ?_
  refine x_b 1 (S2 := (1201, [some (.ref am_SB), some (.ref 0), some (.ref 29), some (.ref 46), some (.int x4), some (.int v394), some (.int v400)], [], (mk B401), B401.kc, B401.kn)) rfl ?_
  refine x_ldan rfl rfl rfl ((rg_md (W := B401)).lt (i := 0) (show 0 < 17 by decide)) ?_
  obtain ⟨v404, h403, hr⟩ := bd_some hr
  refine x_cW (RnW.of0 (m_133 (rg_md (W := B401)) h403) ⟨rfl, rfl⟩) rfl rfl rfl rfl (am_recv_v ((rg_md (W := B401)).lt (i := 0) (show 0 < 17 by decide)) ((rg_md (W := B401)).at (i := 0) rfl) rfl) (by omega) ?_
  refine x_b 1 (S2 := (1207, [some (.ref am_SB), some (.ref 0), some (.ref 29), some (.ref 46), some (.int x4), some (.int v394), some (.int v400)], [.int v394, .int v404], (mk B401), B401.kc, B401.kn)) rfl ?_
  rcases ite_some hr with ⟨h405, hr⟩ | ⟨h405, hr⟩
  · refine x_ct rfl rfl (decide_eq_true h405) ?_
    refine x_b 1 (S2 := (1214, [some (.ref am_SB), some (.ref 0), some (.ref 29), some (.ref 46), some (.int x4), some (.int v394), some (.int v400)], [.int v394], (mk B401), B401.kc, B401.kn)) rfl ?_
    rcases ite_some hr with ⟨h406, hr⟩ | ⟨h406, hr⟩
    · refine x_zt rfl rfl (decide_eq_true h406) ?_
      refine x_fg (Lq.s (Lq.s (Lq.s (Lq.s (Lq.s (Lq.n (Lq.n Lq.nil))))))) ?_
      exact j_299_23_j1229 hd hr ka kx kr
    · refine x_zf rfl rfl (decide_eq_false h406) ?_
      refine x_ldan rfl rfl rfl ((rg_out (W := B401)).lt (i := 0) (show 0 < 1 by decide)) ?_
      refine x_b 1 (S2 := (1219, [some (.ref am_SB), some (.ref 0), some (.ref 29), some (.ref 46), some (.int x4), some (.int v394), some (.int v400)], [.int 0, .ref 46], (mk B401), B401.kc, B401.kn)) rfl ?_
      obtain ⟨i407, h408, hr⟩ := bd_some hr
      refine x_lald rfl rfl ((rg_out (W := B401)).lt (i := 0) (show 0 < 1 by decide)) ((rg_out (W := B401)).at (i := 0) rfl) h408 ?_
      refine x_b 3 (S2 := (1224, [some (.ref am_SB), some (.ref 0), some (.ref 29), some (.ref 46), some (.int x4), some (.int v394), some (.int v400)], [.int (lg_cmp (B401.out i407) v400.toInt64)], (mk B401), B401.kc, B401.kn)) rfl ?_
      rcases ite_some hr with ⟨h409, hr⟩ | ⟨h409, hr⟩
      · refine x_zt rfl rfl (decide_eq_true h409) ?_
        refine x_fg (Lq.s (Lq.s (Lq.s (Lq.s (Lq.s (Lq.n (Lq.n Lq.nil))))))) ?_
        exact j_299_23_j1229 hd hr ka kx kr
      · refine x_zf rfl rfl (decide_eq_false h409) ?_
        refine x_b 1 (S2 := (1228, [some (.ref am_SB), some (.ref 0), some (.ref 29), some (.ref 46), some (.int x4), some (.int v394), some (.int v400)], [.int 0], (mk B401), B401.kc, B401.kn)) rfl ?_
        rw [kr _ (Option.some.inj hr).symm]
        exact x_ret rfl rfl (am_ret_z (by decide))
  · refine x_cf rfl rfl (decide_eq_false h405) ?_
    refine x_b 1 (S2 := (1211, [some (.ref am_SB), some (.ref 0), some (.ref 29), some (.ref 46), some (.int x4), some (.int v394), some (.int v400)], [.int 0], (mk B401), B401.kc, B401.kn)) rfl ?_
    rw [kr _ (Option.some.inj hr).symm]
    exact x_ret rfl rfl (am_ret_z (by decide))
def J_299_23_j1304 (L : Nat) (xs : Nat → Int32) (B : Wd) (x4 : Int32) : Option ((Int32 × Wd) ⊕ (Wd) ⊕ (Int32 × Wd)) :=
  J_299_23_j2564 L xs B x4
set_option maxRecDepth 200000 in
theorem j_299_23_j1304 {d : Nat} (hd : 11 ≤ d) {L : Nat} {xs : Nat → Int32} {res : ARe} {B : Wd} {x4 : Int32} {o : (Int32 × Wd) ⊕ (Wd) ⊕ (Int32 × Wd)} (hr : J_299_23_j1304 L xs B x4 = some o) (ka : ∀ s, o = .inl s → Ex d am_M299 (some (L, xs)) (P_299_23 L xs s) res) (kx : ∀ s, o = .inr (.inl s) → Ex d am_M299 (some (L, xs)) (PX_299_23 L xs s) res) (kr : ∀ r, o = .inr (.inr r) → res = (.inl (some (.int r.1)), mk r.2, Wd.kc r.2, Wd.kn r.2)) : Ex d am_M299 (some (L, xs)) (1304, [some (.ref am_SB), some (.ref 0), some (.ref 29), some (.ref 46), some (.int x4), none, none], [], (mk B), B.kc, B.kn) res := by
  delta J_299_23_j1304 at hr
  refine x_b 1 (S2 := (2564, [some (.ref am_SB), some (.ref 0), some (.ref 29), some (.ref 46), some (.int x4), none, none], [], (mk B), B.kc, B.kn)) rfl ?_
  refine x_fg (Lq.s (Lq.s (Lq.s (Lq.s (Lq.s (Lq.s (Lq.s Lq.nil))))))) ?_
  exact j_299_23_j2564 hd hr ka kx kr
def J_299_23_j1298 (L : Nat) (xs : Nat → Int32) (B : Wd) (x4 : Int32) (t0 : Int64) (t1 : Int64) : Option ((Int32 × Wd) ⊕ (Wd) ⊕ (Int32 × Wd)) :=
  if (lg_cmp t1 t0) = 0 then
    J_299_23_j1304 L xs B x4
  else
    some (.inr (.inr (0, B)))
set_option maxRecDepth 200000 in
theorem j_299_23_j1298 {d : Nat} (hd : 11 ≤ d) {L : Nat} {xs : Nat → Int32} {res : ARe} {B : Wd} {x4 : Int32} {t0 : Int64} {t1 : Int64} {o : (Int32 × Wd) ⊕ (Wd) ⊕ (Int32 × Wd)} (hr : J_299_23_j1298 L xs B x4 t0 t1 = some o) (ka : ∀ s, o = .inl s → Ex d am_M299 (some (L, xs)) (P_299_23 L xs s) res) (kx : ∀ s, o = .inr (.inl s) → Ex d am_M299 (some (L, xs)) (PX_299_23 L xs s) res) (kr : ∀ r, o = .inr (.inr r) → res = (.inl (some (.int r.1)), mk r.2, Wd.kc r.2, Wd.kn r.2)) : Ex d am_M299 (some (L, xs)) (1298, [some (.ref am_SB), some (.ref 0), some (.ref 29), some (.ref 46), some (.int x4), none, none], [.long t0, .long t1], (mk B), B.kc, B.kn) res := by
  delta J_299_23_j1298 at hr
  refine x_b 1 (S2 := (1299, [some (.ref am_SB), some (.ref 0), some (.ref 29), some (.ref 46), some (.int x4), none, none], [.int (lg_cmp t1 t0)], (mk B), B.kc, B.kn)) rfl ?_
  rcases ite_some hr with ⟨h436, hr⟩ | ⟨h436, hr⟩
  · refine x_zt rfl rfl (decide_eq_true h436) ?_
    refine x_fg (Lq.s (Lq.s (Lq.s (Lq.s (Lq.s (Lq.s (Lq.s Lq.nil))))))) ?_
    exact j_299_23_j1304 hd hr ka kx kr
  · refine x_zf rfl rfl (decide_eq_false h436) ?_
    refine x_b 1 (S2 := (1303, [some (.ref am_SB), some (.ref 0), some (.ref 29), some (.ref 46), some (.int x4), none, none], [.int 0], (mk B), B.kc, B.kn)) rfl ?_
    rw [kr _ (Option.some.inj hr).symm]
    exact x_ret rfl rfl (am_ret_z (by decide))
def J_299_23_j1232 (L : Nat) (xs : Nat → Int32) (B : Wd) (x4 : Int32) : Option ((Int32 × Wd) ⊕ (Wd) ⊕ (Int32 × Wd)) :=
  (ix (x4 + 1) L).bind fun i413 =>
  (ix (x4 + 2) L).bind fun i415 =>
  (F_278 B (xs i413) (xs i415)).bind fun (v418, B419) =>
  (ix (x4 + 1) L).bind fun i420 =>
  (ix (x4 + 2) L).bind fun i422 =>
  (F_200 B419.md (xs i420) (xs i422)).bind fun (v426, o425) =>
  (some (B419.w_md o425)).bind fun B427 =>
  (F_133 B427.md).bind fun v430 =>
  if v430 = v418 then
    if ¬ v418 = 0 then
      J_299_23_j1304 L xs B427 x4
    else
      (ix 0 1).bind fun i433 =>
      if v426 = 0 then
        J_299_23_j1298 L xs B427 x4 0 (B427.out i433)
      else
        J_299_23_j1298 L xs B427 x4 1 (B427.out i433)
  else
    some (.inr (.inr (0, B427)))
set_option maxRecDepth 200000 in
theorem j_299_23_j1232 {d : Nat} (hd : 11 ≤ d) {L : Nat} {xs : Nat → Int32} {res : ARe} {B : Wd} {x4 : Int32} {o : (Int32 × Wd) ⊕ (Wd) ⊕ (Int32 × Wd)} (hr : J_299_23_j1232 L xs B x4 = some o) (ka : ∀ s, o = .inl s → Ex d am_M299 (some (L, xs)) (P_299_23 L xs s) res) (kx : ∀ s, o = .inr (.inl s) → Ex d am_M299 (some (L, xs)) (PX_299_23 L xs s) res) (kr : ∀ r, o = .inr (.inr r) → res = (.inl (some (.int r.1)), mk r.2, Wd.kc r.2, Wd.kn r.2)) : Ex d am_M299 (some (L, xs)) (1232, [some (.ref am_SB), some (.ref 0), some (.ref 29), some (.ref 46), some (.int x4), none, none], [], (mk B), B.kc, B.kn) res := by
  delta J_299_23_j1232 at hr
  refine x_ldan rfl rfl rfl ((rg_pp (W := B)).lt (i := 0) (show 0 < 1 by decide)) ?_
  refine x_ldsn rfl rfl rfl ?_
  refine x_b 3 (S2 := (1238, [some (.ref am_SB), some (.ref 0), some (.ref 29), some (.ref 46), some (.int x4), none, none], [.int (x4 + 1), .ref am_SB, .ref 0], (mk B), B.kc, B.kn)) rfl ?_
  obtain ⟨i413, h414, hr⟩ := bd_some hr
  refine x_sld rfl rfl h414 ?_
  refine x_ldsn rfl rfl rfl ?_
  refine x_b 3 (S2 := (1244, [some (.ref am_SB), some (.ref 0), some (.ref 29), some (.ref 46), some (.int x4), none, none], [.int (x4 + 2), .ref am_SB, .int (xs i413), .ref 0], (mk B), B.kc, B.kn)) rfl ?_
  obtain ⟨i415, h416, hr⟩ := bd_some hr
  refine x_sld rfl rfl h416 ?_
  refine x_ldan rfl rfl rfl ((rg_out (W := B)).lt (i := 0) (show 0 < 1 by decide)) ?_
  obtain ⟨⟨v418, B419⟩, h417, hr⟩ := bd_some hr
  refine x_cW (m_278 h417) rfl rfl rfl rfl rfl (by omega) ?_
  refine x_b 1 (S2 := (1251, [some (.ref am_SB), some (.ref 0), some (.ref 29), some (.ref 46), some (.int x4), some (.int v418), none], [], (mk B419), B419.kc, B419.kn)) rfl ?_
  refine x_ldan rfl rfl rfl ((rg_md (W := B419)).lt (i := 0) (show 0 < 17 by decide)) ?_
  refine x_ldsn rfl rfl rfl ?_
  refine x_b 3 (S2 := (1257, [some (.ref am_SB), some (.ref 0), some (.ref 29), some (.ref 46), some (.int x4), some (.int v418), none], [.int (x4 + 1), .ref am_SB, .ref 29], (mk B419), B419.kc, B419.kn)) rfl ?_
  obtain ⟨i420, h421, hr⟩ := bd_some hr
  refine x_sld rfl rfl h421 ?_
  refine x_ldsn rfl rfl rfl ?_
  refine x_b 3 (S2 := (1263, [some (.ref am_SB), some (.ref 0), some (.ref 29), some (.ref 46), some (.int x4), some (.int v418), none], [.int (x4 + 2), .ref am_SB, .int (xs i420), .ref 29], (mk B419), B419.kc, B419.kn)) rfl ?_
  obtain ⟨i422, h423, hr⟩ := bd_some hr
  refine x_sld rfl rfl h423 ?_
  obtain ⟨⟨v426, o425⟩, h424, hr⟩ := bd_some hr
  obtain ⟨B427, h428, hr⟩ := bd_some hr
  refine x_cW (wc_md (fun H hb hh hH => m_200 hb hh h424) h428) rfl rfl rfl rfl (am_recv_v ((rg_md (W := B419)).lt (i := 0) (show 0 < 17 by decide)) ((rg_md (W := B419)).at (i := 0) rfl) rfl) (by omega) ?_
  refine x_b 1 (S2 := (1269, [some (.ref am_SB), some (.ref 0), some (.ref 29), some (.ref 46), some (.int x4), some (.int v418), some (.int v426)], [], (mk B427), B427.kc, B427.kn)) rfl ?_
  refine x_ldan rfl rfl rfl ((rg_md (W := B427)).lt (i := 0) (show 0 < 17 by decide)) ?_
  obtain ⟨v430, h429, hr⟩ := bd_some hr
  refine x_cW (RnW.of0 (m_133 (rg_md (W := B427)) h429) ⟨rfl, rfl⟩) rfl rfl rfl rfl (am_recv_v ((rg_md (W := B427)).lt (i := 0) (show 0 < 17 by decide)) ((rg_md (W := B427)).at (i := 0) rfl) rfl) (by omega) ?_
  refine x_b 1 (S2 := (1275, [some (.ref am_SB), some (.ref 0), some (.ref 29), some (.ref 46), some (.int x4), some (.int v418), some (.int v426)], [.int v418, .int v430], (mk B427), B427.kc, B427.kn)) rfl ?_
  rcases ite_some hr with ⟨h431, hr⟩ | ⟨h431, hr⟩
  · refine x_ct rfl rfl (decide_eq_true h431) ?_
    refine x_b 1 (S2 := (1282, [some (.ref am_SB), some (.ref 0), some (.ref 29), some (.ref 46), some (.int x4), some (.int v418), some (.int v426)], [.int v418], (mk B427), B427.kc, B427.kn)) rfl ?_
    rcases ite_some hr with ⟨h432, hr⟩ | ⟨h432, hr⟩
    · refine x_zt rfl rfl (decide_eq_true h432) ?_
      refine x_fg (Lq.s (Lq.s (Lq.s (Lq.s (Lq.s (Lq.n (Lq.n Lq.nil))))))) ?_
      exact j_299_23_j1304 hd hr ka kx kr
    · refine x_zf rfl rfl (decide_eq_false h432) ?_
      refine x_ldan rfl rfl rfl ((rg_out (W := B427)).lt (i := 0) (show 0 < 1 by decide)) ?_
      refine x_b 1 (S2 := (1287, [some (.ref am_SB), some (.ref 0), some (.ref 29), some (.ref 46), some (.int x4), some (.int v418), some (.int v426)], [.int 0, .ref 46], (mk B427), B427.kc, B427.kn)) rfl ?_
      obtain ⟨i433, h434, hr⟩ := bd_some hr
      refine x_lald rfl rfl ((rg_out (W := B427)).lt (i := 0) (show 0 < 1 by decide)) ((rg_out (W := B427)).at (i := 0) rfl) h434 ?_
      refine x_b 1 (S2 := (1290, [some (.ref am_SB), some (.ref 0), some (.ref 29), some (.ref 46), some (.int x4), some (.int v418), some (.int v426)], [.int v426, .long (B427.out i433)], (mk B427), B427.kc, B427.kn)) rfl ?_
      rcases ite_some hr with ⟨h435, hr⟩ | ⟨h435, hr⟩
      · refine x_zt rfl rfl (decide_eq_true h435) ?_
        refine x_b 1 (S2 := (1298, [some (.ref am_SB), some (.ref 0), some (.ref 29), some (.ref 46), some (.int x4), some (.int v418), some (.int v426)], [.long 0, .long (B427.out i433)], (mk B427), B427.kc, B427.kn)) rfl ?_
        refine x_fg (Lq.s (Lq.s (Lq.s (Lq.s (Lq.s (Lq.n (Lq.n Lq.nil))))))) ?_
        exact j_299_23_j1298 hd hr ka kx kr
      · refine x_zf rfl rfl (decide_eq_false h435) ?_
        refine x_b 2 (S2 := (1298, [some (.ref am_SB), some (.ref 0), some (.ref 29), some (.ref 46), some (.int x4), some (.int v418), some (.int v426)], [.long 1, .long (B427.out i433)], (mk B427), B427.kc, B427.kn)) rfl ?_
        refine x_fg (Lq.s (Lq.s (Lq.s (Lq.s (Lq.s (Lq.n (Lq.n Lq.nil))))))) ?_
        exact j_299_23_j1298 hd hr ka kx kr
  · refine x_cf rfl rfl (decide_eq_false h431) ?_
    refine x_b 1 (S2 := (1279, [some (.ref am_SB), some (.ref 0), some (.ref 29), some (.ref 46), some (.int x4), some (.int v418), some (.int v426)], [.int 0], (mk B427), B427.kc, B427.kn)) rfl ?_
    rw [kr _ (Option.some.inj hr).symm]
    exact x_ret rfl rfl (am_ret_z (by decide))
def J_299_23_j1372 (L : Nat) (xs : Nat → Int32) (B : Wd) (x4 : Int32) : Option ((Int32 × Wd) ⊕ (Wd) ⊕ (Int32 × Wd)) :=
  J_299_23_j2564 L xs B x4
set_option maxRecDepth 200000 in
theorem j_299_23_j1372 {d : Nat} (hd : 11 ≤ d) {L : Nat} {xs : Nat → Int32} {res : ARe} {B : Wd} {x4 : Int32} {o : (Int32 × Wd) ⊕ (Wd) ⊕ (Int32 × Wd)} (hr : J_299_23_j1372 L xs B x4 = some o) (ka : ∀ s, o = .inl s → Ex d am_M299 (some (L, xs)) (P_299_23 L xs s) res) (kx : ∀ s, o = .inr (.inl s) → Ex d am_M299 (some (L, xs)) (PX_299_23 L xs s) res) (kr : ∀ r, o = .inr (.inr r) → res = (.inl (some (.int r.1)), mk r.2, Wd.kc r.2, Wd.kn r.2)) : Ex d am_M299 (some (L, xs)) (1372, [some (.ref am_SB), some (.ref 0), some (.ref 29), some (.ref 46), some (.int x4), none, none], [], (mk B), B.kc, B.kn) res := by
  delta J_299_23_j1372 at hr
  refine x_b 1 (S2 := (2564, [some (.ref am_SB), some (.ref 0), some (.ref 29), some (.ref 46), some (.int x4), none, none], [], (mk B), B.kc, B.kn)) rfl ?_
  refine x_fg (Lq.s (Lq.s (Lq.s (Lq.s (Lq.s (Lq.s (Lq.s Lq.nil))))))) ?_
  exact j_299_23_j2564 hd hr ka kx kr
def J_299_23_j1307 (L : Nat) (xs : Nat → Int32) (B : Wd) (x4 : Int32) : Option ((Int32 × Wd) ⊕ (Wd) ⊕ (Int32 × Wd)) :=
  (ix (x4 + 1) L).bind fun i440 =>
  (ix (x4 + 2) L).bind fun i442 =>
  (F_279 B (xs i440) (xs i442)).bind fun (v445, B446) =>
  (ix (x4 + 1) L).bind fun i447 =>
  (ix (x4 + 2) L).bind fun i449 =>
  (F_201 B446.md (xs i447) (xs i449)).bind fun (v453, o452) =>
  (some (B446.w_md o452)).bind fun B454 =>
  (F_133 B454.md).bind fun v457 =>
  if v457 = v445 then
    if ¬ v445 = 0 then
      J_299_23_j1372 L xs B454 x4
    else
      (ix 0 1).bind fun i460 =>
      if (lg_cmp (B454.out i460) v453.toInt64) = 0 then
        J_299_23_j1372 L xs B454 x4
      else
        some (.inr (.inr (0, B454)))
  else
    some (.inr (.inr (0, B454)))
set_option maxRecDepth 200000 in
theorem j_299_23_j1307 {d : Nat} (hd : 11 ≤ d) {L : Nat} {xs : Nat → Int32} {res : ARe} {B : Wd} {x4 : Int32} {o : (Int32 × Wd) ⊕ (Wd) ⊕ (Int32 × Wd)} (hr : J_299_23_j1307 L xs B x4 = some o) (ka : ∀ s, o = .inl s → Ex d am_M299 (some (L, xs)) (P_299_23 L xs s) res) (kx : ∀ s, o = .inr (.inl s) → Ex d am_M299 (some (L, xs)) (PX_299_23 L xs s) res) (kr : ∀ r, o = .inr (.inr r) → res = (.inl (some (.int r.1)), mk r.2, Wd.kc r.2, Wd.kn r.2)) : Ex d am_M299 (some (L, xs)) (1307, [some (.ref am_SB), some (.ref 0), some (.ref 29), some (.ref 46), some (.int x4), none, none], [], (mk B), B.kc, B.kn) res := by
  delta J_299_23_j1307 at hr
  refine x_ldan rfl rfl rfl ((rg_pp (W := B)).lt (i := 0) (show 0 < 1 by decide)) ?_
  refine x_ldsn rfl rfl rfl ?_
  refine x_b 3 (S2 := (1313, [some (.ref am_SB), some (.ref 0), some (.ref 29), some (.ref 46), some (.int x4), none, none], [.int (x4 + 1), .ref am_SB, .ref 0], (mk B), B.kc, B.kn)) rfl ?_
  obtain ⟨i440, h441, hr⟩ := bd_some hr
  refine x_sld rfl rfl h441 ?_
  refine x_ldsn rfl rfl rfl ?_
  refine x_b 3 (S2 := (1319, [some (.ref am_SB), some (.ref 0), some (.ref 29), some (.ref 46), some (.int x4), none, none], [.int (x4 + 2), .ref am_SB, .int (xs i440), .ref 0], (mk B), B.kc, B.kn)) rfl ?_
  obtain ⟨i442, h443, hr⟩ := bd_some hr
  refine x_sld rfl rfl h443 ?_
  refine x_ldan rfl rfl rfl ((rg_out (W := B)).lt (i := 0) (show 0 < 1 by decide)) ?_
  obtain ⟨⟨v445, B446⟩, h444, hr⟩ := bd_some hr
  refine x_cW (m_279 h444) rfl rfl rfl rfl rfl (by omega) ?_
  refine x_b 1 (S2 := (1326, [some (.ref am_SB), some (.ref 0), some (.ref 29), some (.ref 46), some (.int x4), some (.int v445), none], [], (mk B446), B446.kc, B446.kn)) rfl ?_
  refine x_ldan rfl rfl rfl ((rg_md (W := B446)).lt (i := 0) (show 0 < 17 by decide)) ?_
  refine x_ldsn rfl rfl rfl ?_
  refine x_b 3 (S2 := (1332, [some (.ref am_SB), some (.ref 0), some (.ref 29), some (.ref 46), some (.int x4), some (.int v445), none], [.int (x4 + 1), .ref am_SB, .ref 29], (mk B446), B446.kc, B446.kn)) rfl ?_
  obtain ⟨i447, h448, hr⟩ := bd_some hr
  refine x_sld rfl rfl h448 ?_
  refine x_ldsn rfl rfl rfl ?_
  refine x_b 3 (S2 := (1338, [some (.ref am_SB), some (.ref 0), some (.ref 29), some (.ref 46), some (.int x4), some (.int v445), none], [.int (x4 + 2), .ref am_SB, .int (xs i447), .ref 29], (mk B446), B446.kc, B446.kn)) rfl ?_
  obtain ⟨i449, h450, hr⟩ := bd_some hr
  refine x_sld rfl rfl h450 ?_
  obtain ⟨⟨v453, o452⟩, h451, hr⟩ := bd_some hr
  obtain ⟨B454, h455, hr⟩ := bd_some hr
  refine x_cW (wc_md (fun H hb hh hH => m_201 hb hh h451) h455) rfl rfl rfl rfl (am_recv_v ((rg_md (W := B446)).lt (i := 0) (show 0 < 17 by decide)) ((rg_md (W := B446)).at (i := 0) rfl) rfl) (by omega) ?_
  refine x_b 1 (S2 := (1344, [some (.ref am_SB), some (.ref 0), some (.ref 29), some (.ref 46), some (.int x4), some (.int v445), some (.int v453)], [], (mk B454), B454.kc, B454.kn)) rfl ?_
  refine x_ldan rfl rfl rfl ((rg_md (W := B454)).lt (i := 0) (show 0 < 17 by decide)) ?_
  obtain ⟨v457, h456, hr⟩ := bd_some hr
  refine x_cW (RnW.of0 (m_133 (rg_md (W := B454)) h456) ⟨rfl, rfl⟩) rfl rfl rfl rfl (am_recv_v ((rg_md (W := B454)).lt (i := 0) (show 0 < 17 by decide)) ((rg_md (W := B454)).at (i := 0) rfl) rfl) (by omega) ?_
  refine x_b 1 (S2 := (1350, [some (.ref am_SB), some (.ref 0), some (.ref 29), some (.ref 46), some (.int x4), some (.int v445), some (.int v453)], [.int v445, .int v457], (mk B454), B454.kc, B454.kn)) rfl ?_
  rcases ite_some hr with ⟨h458, hr⟩ | ⟨h458, hr⟩
  · refine x_ct rfl rfl (decide_eq_true h458) ?_
    refine x_b 1 (S2 := (1357, [some (.ref am_SB), some (.ref 0), some (.ref 29), some (.ref 46), some (.int x4), some (.int v445), some (.int v453)], [.int v445], (mk B454), B454.kc, B454.kn)) rfl ?_
    rcases ite_some hr with ⟨h459, hr⟩ | ⟨h459, hr⟩
    · refine x_zt rfl rfl (decide_eq_true h459) ?_
      refine x_fg (Lq.s (Lq.s (Lq.s (Lq.s (Lq.s (Lq.n (Lq.n Lq.nil))))))) ?_
      exact j_299_23_j1372 hd hr ka kx kr
    · refine x_zf rfl rfl (decide_eq_false h459) ?_
      refine x_ldan rfl rfl rfl ((rg_out (W := B454)).lt (i := 0) (show 0 < 1 by decide)) ?_
      refine x_b 1 (S2 := (1362, [some (.ref am_SB), some (.ref 0), some (.ref 29), some (.ref 46), some (.int x4), some (.int v445), some (.int v453)], [.int 0, .ref 46], (mk B454), B454.kc, B454.kn)) rfl ?_
      obtain ⟨i460, h461, hr⟩ := bd_some hr
      refine x_lald rfl rfl ((rg_out (W := B454)).lt (i := 0) (show 0 < 1 by decide)) ((rg_out (W := B454)).at (i := 0) rfl) h461 ?_
      refine x_b 3 (S2 := (1367, [some (.ref am_SB), some (.ref 0), some (.ref 29), some (.ref 46), some (.int x4), some (.int v445), some (.int v453)], [.int (lg_cmp (B454.out i460) v453.toInt64)], (mk B454), B454.kc, B454.kn)) rfl ?_
      rcases ite_some hr with ⟨h462, hr⟩ | ⟨h462, hr⟩
      · refine x_zt rfl rfl (decide_eq_true h462) ?_
        refine x_fg (Lq.s (Lq.s (Lq.s (Lq.s (Lq.s (Lq.n (Lq.n Lq.nil))))))) ?_
        exact j_299_23_j1372 hd hr ka kx kr
      · refine x_zf rfl rfl (decide_eq_false h462) ?_
        refine x_b 1 (S2 := (1371, [some (.ref am_SB), some (.ref 0), some (.ref 29), some (.ref 46), some (.int x4), some (.int v445), some (.int v453)], [.int 0], (mk B454), B454.kc, B454.kn)) rfl ?_
        rw [kr _ (Option.some.inj hr).symm]
        exact x_ret rfl rfl (am_ret_z (by decide))
  · refine x_cf rfl rfl (decide_eq_false h458) ?_
    refine x_b 1 (S2 := (1354, [some (.ref am_SB), some (.ref 0), some (.ref 29), some (.ref 46), some (.int x4), some (.int v445), some (.int v453)], [.int 0], (mk B454), B454.kc, B454.kn)) rfl ?_
    rw [kr _ (Option.some.inj hr).symm]
    exact x_ret rfl rfl (am_ret_z (by decide))
def J_299_23_j1428 (L : Nat) (xs : Nat → Int32) (B : Wd) (x4 : Int32) : Option ((Int32 × Wd) ⊕ (Wd) ⊕ (Int32 × Wd)) :=
  J_299_23_j2564 L xs B x4
set_option maxRecDepth 200000 in
theorem j_299_23_j1428 {d : Nat} (hd : 11 ≤ d) {L : Nat} {xs : Nat → Int32} {res : ARe} {B : Wd} {x4 : Int32} {o : (Int32 × Wd) ⊕ (Wd) ⊕ (Int32 × Wd)} (hr : J_299_23_j1428 L xs B x4 = some o) (ka : ∀ s, o = .inl s → Ex d am_M299 (some (L, xs)) (P_299_23 L xs s) res) (kx : ∀ s, o = .inr (.inl s) → Ex d am_M299 (some (L, xs)) (PX_299_23 L xs s) res) (kr : ∀ r, o = .inr (.inr r) → res = (.inl (some (.int r.1)), mk r.2, Wd.kc r.2, Wd.kn r.2)) : Ex d am_M299 (some (L, xs)) (1428, [some (.ref am_SB), some (.ref 0), some (.ref 29), some (.ref 46), some (.int x4), none, none], [], (mk B), B.kc, B.kn) res := by
  delta J_299_23_j1428 at hr
  refine x_b 1 (S2 := (2564, [some (.ref am_SB), some (.ref 0), some (.ref 29), some (.ref 46), some (.int x4), none, none], [], (mk B), B.kc, B.kn)) rfl ?_
  refine x_fg (Lq.s (Lq.s (Lq.s (Lq.s (Lq.s (Lq.s (Lq.s Lq.nil))))))) ?_
  exact j_299_23_j2564 hd hr ka kx kr
def J_299_23_j1375 (L : Nat) (xs : Nat → Int32) (B : Wd) (x4 : Int32) : Option ((Int32 × Wd) ⊕ (Wd) ⊕ (Int32 × Wd)) :=
  (ix (x4 + 1) L).bind fun i466 =>
  (F_280 B (xs i466)).bind fun (v469, B470) =>
  (ix (x4 + 1) L).bind fun i471 =>
  (F_202 B470.md (xs i471)).bind fun (v475, o474) =>
  (some (B470.w_md o474)).bind fun B476 =>
  (F_133 B476.md).bind fun v479 =>
  if v479 = v469 then
    if ¬ v469 = 0 then
      J_299_23_j1428 L xs B476 x4
    else
      (ix 0 1).bind fun i482 =>
      if (lg_cmp (B476.out i482) v475.toInt64) = 0 then
        J_299_23_j1428 L xs B476 x4
      else
        some (.inr (.inr (0, B476)))
  else
    some (.inr (.inr (0, B476)))
set_option maxRecDepth 200000 in
theorem j_299_23_j1375 {d : Nat} (hd : 11 ≤ d) {L : Nat} {xs : Nat → Int32} {res : ARe} {B : Wd} {x4 : Int32} {o : (Int32 × Wd) ⊕ (Wd) ⊕ (Int32 × Wd)} (hr : J_299_23_j1375 L xs B x4 = some o) (ka : ∀ s, o = .inl s → Ex d am_M299 (some (L, xs)) (P_299_23 L xs s) res) (kx : ∀ s, o = .inr (.inl s) → Ex d am_M299 (some (L, xs)) (PX_299_23 L xs s) res) (kr : ∀ r, o = .inr (.inr r) → res = (.inl (some (.int r.1)), mk r.2, Wd.kc r.2, Wd.kn r.2)) : Ex d am_M299 (some (L, xs)) (1375, [some (.ref am_SB), some (.ref 0), some (.ref 29), some (.ref 46), some (.int x4), none, none], [], (mk B), B.kc, B.kn) res := by
  delta J_299_23_j1375 at hr
  refine x_ldan rfl rfl rfl ((rg_pp (W := B)).lt (i := 0) (show 0 < 1 by decide)) ?_
  refine x_ldsn rfl rfl rfl ?_
  refine x_b 3 (S2 := (1381, [some (.ref am_SB), some (.ref 0), some (.ref 29), some (.ref 46), some (.int x4), none, none], [.int (x4 + 1), .ref am_SB, .ref 0], (mk B), B.kc, B.kn)) rfl ?_
  obtain ⟨i466, h467, hr⟩ := bd_some hr
  refine x_sld rfl rfl h467 ?_
  refine x_ldan rfl rfl rfl ((rg_out (W := B)).lt (i := 0) (show 0 < 1 by decide)) ?_
  obtain ⟨⟨v469, B470⟩, h468, hr⟩ := bd_some hr
  refine x_cW (m_280 h468) rfl rfl rfl rfl rfl (by omega) ?_
  refine x_b 1 (S2 := (1388, [some (.ref am_SB), some (.ref 0), some (.ref 29), some (.ref 46), some (.int x4), some (.int v469), none], [], (mk B470), B470.kc, B470.kn)) rfl ?_
  refine x_ldan rfl rfl rfl ((rg_md (W := B470)).lt (i := 0) (show 0 < 17 by decide)) ?_
  refine x_ldsn rfl rfl rfl ?_
  refine x_b 3 (S2 := (1394, [some (.ref am_SB), some (.ref 0), some (.ref 29), some (.ref 46), some (.int x4), some (.int v469), none], [.int (x4 + 1), .ref am_SB, .ref 29], (mk B470), B470.kc, B470.kn)) rfl ?_
  obtain ⟨i471, h472, hr⟩ := bd_some hr
  refine x_sld rfl rfl h472 ?_
  obtain ⟨⟨v475, o474⟩, h473, hr⟩ := bd_some hr
  obtain ⟨B476, h477, hr⟩ := bd_some hr
  refine x_cW (wc_md (fun H hb hh hH => m_202 hb hh h473) h477) rfl rfl rfl rfl (am_recv_v ((rg_md (W := B470)).lt (i := 0) (show 0 < 17 by decide)) ((rg_md (W := B470)).at (i := 0) rfl) rfl) (by omega) ?_
  refine x_b 1 (S2 := (1400, [some (.ref am_SB), some (.ref 0), some (.ref 29), some (.ref 46), some (.int x4), some (.int v469), some (.int v475)], [], (mk B476), B476.kc, B476.kn)) rfl ?_
  refine x_ldan rfl rfl rfl ((rg_md (W := B476)).lt (i := 0) (show 0 < 17 by decide)) ?_
  obtain ⟨v479, h478, hr⟩ := bd_some hr
  refine x_cW (RnW.of0 (m_133 (rg_md (W := B476)) h478) ⟨rfl, rfl⟩) rfl rfl rfl rfl (am_recv_v ((rg_md (W := B476)).lt (i := 0) (show 0 < 17 by decide)) ((rg_md (W := B476)).at (i := 0) rfl) rfl) (by omega) ?_
  refine x_b 1 (S2 := (1406, [some (.ref am_SB), some (.ref 0), some (.ref 29), some (.ref 46), some (.int x4), some (.int v469), some (.int v475)], [.int v469, .int v479], (mk B476), B476.kc, B476.kn)) rfl ?_
  rcases ite_some hr with ⟨h480, hr⟩ | ⟨h480, hr⟩
  · refine x_ct rfl rfl (decide_eq_true h480) ?_
    refine x_b 1 (S2 := (1413, [some (.ref am_SB), some (.ref 0), some (.ref 29), some (.ref 46), some (.int x4), some (.int v469), some (.int v475)], [.int v469], (mk B476), B476.kc, B476.kn)) rfl ?_
    rcases ite_some hr with ⟨h481, hr⟩ | ⟨h481, hr⟩
    · refine x_zt rfl rfl (decide_eq_true h481) ?_
      refine x_fg (Lq.s (Lq.s (Lq.s (Lq.s (Lq.s (Lq.n (Lq.n Lq.nil))))))) ?_
      exact j_299_23_j1428 hd hr ka kx kr
    · refine x_zf rfl rfl (decide_eq_false h481) ?_
      refine x_ldan rfl rfl rfl ((rg_out (W := B476)).lt (i := 0) (show 0 < 1 by decide)) ?_
      refine x_b 1 (S2 := (1418, [some (.ref am_SB), some (.ref 0), some (.ref 29), some (.ref 46), some (.int x4), some (.int v469), some (.int v475)], [.int 0, .ref 46], (mk B476), B476.kc, B476.kn)) rfl ?_
      obtain ⟨i482, h483, hr⟩ := bd_some hr
      refine x_lald rfl rfl ((rg_out (W := B476)).lt (i := 0) (show 0 < 1 by decide)) ((rg_out (W := B476)).at (i := 0) rfl) h483 ?_
      refine x_b 3 (S2 := (1423, [some (.ref am_SB), some (.ref 0), some (.ref 29), some (.ref 46), some (.int x4), some (.int v469), some (.int v475)], [.int (lg_cmp (B476.out i482) v475.toInt64)], (mk B476), B476.kc, B476.kn)) rfl ?_
      rcases ite_some hr with ⟨h484, hr⟩ | ⟨h484, hr⟩
      · refine x_zt rfl rfl (decide_eq_true h484) ?_
        refine x_fg (Lq.s (Lq.s (Lq.s (Lq.s (Lq.s (Lq.n (Lq.n Lq.nil))))))) ?_
        exact j_299_23_j1428 hd hr ka kx kr
      · refine x_zf rfl rfl (decide_eq_false h484) ?_
        refine x_b 1 (S2 := (1427, [some (.ref am_SB), some (.ref 0), some (.ref 29), some (.ref 46), some (.int x4), some (.int v469), some (.int v475)], [.int 0], (mk B476), B476.kc, B476.kn)) rfl ?_
        rw [kr _ (Option.some.inj hr).symm]
        exact x_ret rfl rfl (am_ret_z (by decide))
  · refine x_cf rfl rfl (decide_eq_false h480) ?_
    refine x_b 1 (S2 := (1410, [some (.ref am_SB), some (.ref 0), some (.ref 29), some (.ref 46), some (.int x4), some (.int v469), some (.int v475)], [.int 0], (mk B476), B476.kc, B476.kn)) rfl ?_
    rw [kr _ (Option.some.inj hr).symm]
    exact x_ret rfl rfl (am_ret_z (by decide))
def J_299_23_j1484 (L : Nat) (xs : Nat → Int32) (B : Wd) (x4 : Int32) : Option ((Int32 × Wd) ⊕ (Wd) ⊕ (Int32 × Wd)) :=
  J_299_23_j2564 L xs B x4
set_option maxRecDepth 200000 in
theorem j_299_23_j1484 {d : Nat} (hd : 11 ≤ d) {L : Nat} {xs : Nat → Int32} {res : ARe} {B : Wd} {x4 : Int32} {o : (Int32 × Wd) ⊕ (Wd) ⊕ (Int32 × Wd)} (hr : J_299_23_j1484 L xs B x4 = some o) (ka : ∀ s, o = .inl s → Ex d am_M299 (some (L, xs)) (P_299_23 L xs s) res) (kx : ∀ s, o = .inr (.inl s) → Ex d am_M299 (some (L, xs)) (PX_299_23 L xs s) res) (kr : ∀ r, o = .inr (.inr r) → res = (.inl (some (.int r.1)), mk r.2, Wd.kc r.2, Wd.kn r.2)) : Ex d am_M299 (some (L, xs)) (1484, [some (.ref am_SB), some (.ref 0), some (.ref 29), some (.ref 46), some (.int x4), none, none], [], (mk B), B.kc, B.kn) res := by
  delta J_299_23_j1484 at hr
  refine x_b 1 (S2 := (2564, [some (.ref am_SB), some (.ref 0), some (.ref 29), some (.ref 46), some (.int x4), none, none], [], (mk B), B.kc, B.kn)) rfl ?_
  refine x_fg (Lq.s (Lq.s (Lq.s (Lq.s (Lq.s (Lq.s (Lq.s Lq.nil))))))) ?_
  exact j_299_23_j2564 hd hr ka kx kr
def J_299_23_j1431 (L : Nat) (xs : Nat → Int32) (B : Wd) (x4 : Int32) : Option ((Int32 × Wd) ⊕ (Wd) ⊕ (Int32 × Wd)) :=
  (ix (x4 + 1) L).bind fun i488 =>
  (F_281 B (xs i488)).bind fun (v491, B492) =>
  (ix (x4 + 1) L).bind fun i493 =>
  (F_203 B492.md (xs i493)).bind fun (v497, o496) =>
  (some (B492.w_md o496)).bind fun B498 =>
  (F_133 B498.md).bind fun v501 =>
  if v501 = v491 then
    if ¬ v491 = 0 then
      J_299_23_j1484 L xs B498 x4
    else
      (ix 0 1).bind fun i504 =>
      if (lg_cmp (B498.out i504) v497.toInt64) = 0 then
        J_299_23_j1484 L xs B498 x4
      else
        some (.inr (.inr (0, B498)))
  else
    some (.inr (.inr (0, B498)))
set_option maxRecDepth 200000 in
theorem j_299_23_j1431 {d : Nat} (hd : 11 ≤ d) {L : Nat} {xs : Nat → Int32} {res : ARe} {B : Wd} {x4 : Int32} {o : (Int32 × Wd) ⊕ (Wd) ⊕ (Int32 × Wd)} (hr : J_299_23_j1431 L xs B x4 = some o) (ka : ∀ s, o = .inl s → Ex d am_M299 (some (L, xs)) (P_299_23 L xs s) res) (kx : ∀ s, o = .inr (.inl s) → Ex d am_M299 (some (L, xs)) (PX_299_23 L xs s) res) (kr : ∀ r, o = .inr (.inr r) → res = (.inl (some (.int r.1)), mk r.2, Wd.kc r.2, Wd.kn r.2)) : Ex d am_M299 (some (L, xs)) (1431, [some (.ref am_SB), some (.ref 0), some (.ref 29), some (.ref 46), some (.int x4), none, none], [], (mk B), B.kc, B.kn) res := by
  delta J_299_23_j1431 at hr
  refine x_ldan rfl rfl rfl ((rg_pp (W := B)).lt (i := 0) (show 0 < 1 by decide)) ?_
  refine x_ldsn rfl rfl rfl ?_
  refine x_b 3 (S2 := (1437, [some (.ref am_SB), some (.ref 0), some (.ref 29), some (.ref 46), some (.int x4), none, none], [.int (x4 + 1), .ref am_SB, .ref 0], (mk B), B.kc, B.kn)) rfl ?_
  obtain ⟨i488, h489, hr⟩ := bd_some hr
  refine x_sld rfl rfl h489 ?_
  refine x_ldan rfl rfl rfl ((rg_out (W := B)).lt (i := 0) (show 0 < 1 by decide)) ?_
  obtain ⟨⟨v491, B492⟩, h490, hr⟩ := bd_some hr
  refine x_cW (m_281 h490) rfl rfl rfl rfl rfl (by omega) ?_
  refine x_b 1 (S2 := (1444, [some (.ref am_SB), some (.ref 0), some (.ref 29), some (.ref 46), some (.int x4), some (.int v491), none], [], (mk B492), B492.kc, B492.kn)) rfl ?_
  refine x_ldan rfl rfl rfl ((rg_md (W := B492)).lt (i := 0) (show 0 < 17 by decide)) ?_
  refine x_ldsn rfl rfl rfl ?_
  refine x_b 3 (S2 := (1450, [some (.ref am_SB), some (.ref 0), some (.ref 29), some (.ref 46), some (.int x4), some (.int v491), none], [.int (x4 + 1), .ref am_SB, .ref 29], (mk B492), B492.kc, B492.kn)) rfl ?_
  obtain ⟨i493, h494, hr⟩ := bd_some hr
  refine x_sld rfl rfl h494 ?_
  obtain ⟨⟨v497, o496⟩, h495, hr⟩ := bd_some hr
  obtain ⟨B498, h499, hr⟩ := bd_some hr
  refine x_cW (wc_md (fun H hb hh hH => m_203 hb hh h495) h499) rfl rfl rfl rfl (am_recv_v ((rg_md (W := B492)).lt (i := 0) (show 0 < 17 by decide)) ((rg_md (W := B492)).at (i := 0) rfl) rfl) (by omega) ?_
  refine x_b 1 (S2 := (1456, [some (.ref am_SB), some (.ref 0), some (.ref 29), some (.ref 46), some (.int x4), some (.int v491), some (.int v497)], [], (mk B498), B498.kc, B498.kn)) rfl ?_
  refine x_ldan rfl rfl rfl ((rg_md (W := B498)).lt (i := 0) (show 0 < 17 by decide)) ?_
  obtain ⟨v501, h500, hr⟩ := bd_some hr
  refine x_cW (RnW.of0 (m_133 (rg_md (W := B498)) h500) ⟨rfl, rfl⟩) rfl rfl rfl rfl (am_recv_v ((rg_md (W := B498)).lt (i := 0) (show 0 < 17 by decide)) ((rg_md (W := B498)).at (i := 0) rfl) rfl) (by omega) ?_
  refine x_b 1 (S2 := (1462, [some (.ref am_SB), some (.ref 0), some (.ref 29), some (.ref 46), some (.int x4), some (.int v491), some (.int v497)], [.int v491, .int v501], (mk B498), B498.kc, B498.kn)) rfl ?_
  rcases ite_some hr with ⟨h502, hr⟩ | ⟨h502, hr⟩
  · refine x_ct rfl rfl (decide_eq_true h502) ?_
    refine x_b 1 (S2 := (1469, [some (.ref am_SB), some (.ref 0), some (.ref 29), some (.ref 46), some (.int x4), some (.int v491), some (.int v497)], [.int v491], (mk B498), B498.kc, B498.kn)) rfl ?_
    rcases ite_some hr with ⟨h503, hr⟩ | ⟨h503, hr⟩
    · refine x_zt rfl rfl (decide_eq_true h503) ?_
      refine x_fg (Lq.s (Lq.s (Lq.s (Lq.s (Lq.s (Lq.n (Lq.n Lq.nil))))))) ?_
      exact j_299_23_j1484 hd hr ka kx kr
    · refine x_zf rfl rfl (decide_eq_false h503) ?_
      refine x_ldan rfl rfl rfl ((rg_out (W := B498)).lt (i := 0) (show 0 < 1 by decide)) ?_
      refine x_b 1 (S2 := (1474, [some (.ref am_SB), some (.ref 0), some (.ref 29), some (.ref 46), some (.int x4), some (.int v491), some (.int v497)], [.int 0, .ref 46], (mk B498), B498.kc, B498.kn)) rfl ?_
      obtain ⟨i504, h505, hr⟩ := bd_some hr
      refine x_lald rfl rfl ((rg_out (W := B498)).lt (i := 0) (show 0 < 1 by decide)) ((rg_out (W := B498)).at (i := 0) rfl) h505 ?_
      refine x_b 3 (S2 := (1479, [some (.ref am_SB), some (.ref 0), some (.ref 29), some (.ref 46), some (.int x4), some (.int v491), some (.int v497)], [.int (lg_cmp (B498.out i504) v497.toInt64)], (mk B498), B498.kc, B498.kn)) rfl ?_
      rcases ite_some hr with ⟨h506, hr⟩ | ⟨h506, hr⟩
      · refine x_zt rfl rfl (decide_eq_true h506) ?_
        refine x_fg (Lq.s (Lq.s (Lq.s (Lq.s (Lq.s (Lq.n (Lq.n Lq.nil))))))) ?_
        exact j_299_23_j1484 hd hr ka kx kr
      · refine x_zf rfl rfl (decide_eq_false h506) ?_
        refine x_b 1 (S2 := (1483, [some (.ref am_SB), some (.ref 0), some (.ref 29), some (.ref 46), some (.int x4), some (.int v491), some (.int v497)], [.int 0], (mk B498), B498.kc, B498.kn)) rfl ?_
        rw [kr _ (Option.some.inj hr).symm]
        exact x_ret rfl rfl (am_ret_z (by decide))
  · refine x_cf rfl rfl (decide_eq_false h502) ?_
    refine x_b 1 (S2 := (1466, [some (.ref am_SB), some (.ref 0), some (.ref 29), some (.ref 46), some (.int x4), some (.int v491), some (.int v497)], [.int 0], (mk B498), B498.kc, B498.kn)) rfl ?_
    rw [kr _ (Option.some.inj hr).symm]
    exact x_ret rfl rfl (am_ret_z (by decide))
def J_299_23_j1540 (L : Nat) (xs : Nat → Int32) (B : Wd) (x4 : Int32) : Option ((Int32 × Wd) ⊕ (Wd) ⊕ (Int32 × Wd)) :=
  J_299_23_j2564 L xs B x4
set_option maxRecDepth 200000 in
theorem j_299_23_j1540 {d : Nat} (hd : 11 ≤ d) {L : Nat} {xs : Nat → Int32} {res : ARe} {B : Wd} {x4 : Int32} {o : (Int32 × Wd) ⊕ (Wd) ⊕ (Int32 × Wd)} (hr : J_299_23_j1540 L xs B x4 = some o) (ka : ∀ s, o = .inl s → Ex d am_M299 (some (L, xs)) (P_299_23 L xs s) res) (kx : ∀ s, o = .inr (.inl s) → Ex d am_M299 (some (L, xs)) (PX_299_23 L xs s) res) (kr : ∀ r, o = .inr (.inr r) → res = (.inl (some (.int r.1)), mk r.2, Wd.kc r.2, Wd.kn r.2)) : Ex d am_M299 (some (L, xs)) (1540, [some (.ref am_SB), some (.ref 0), some (.ref 29), some (.ref 46), some (.int x4), none, none], [], (mk B), B.kc, B.kn) res := by
  delta J_299_23_j1540 at hr
  refine x_b 1 (S2 := (2564, [some (.ref am_SB), some (.ref 0), some (.ref 29), some (.ref 46), some (.int x4), none, none], [], (mk B), B.kc, B.kn)) rfl ?_
  refine x_fg (Lq.s (Lq.s (Lq.s (Lq.s (Lq.s (Lq.s (Lq.s Lq.nil))))))) ?_
  exact j_299_23_j2564 hd hr ka kx kr
def J_299_23_j1487 (L : Nat) (xs : Nat → Int32) (B : Wd) (x4 : Int32) : Option ((Int32 × Wd) ⊕ (Wd) ⊕ (Int32 × Wd)) :=
  (ix (x4 + 1) L).bind fun i510 =>
  (F_282 B (xs i510)).bind fun (v513, B514) =>
  (ix (x4 + 1) L).bind fun i515 =>
  (F_204 B514.md (xs i515)).bind fun (v519, o518) =>
  (some (B514.w_md o518)).bind fun B520 =>
  (F_133 B520.md).bind fun v523 =>
  if v523 = v513 then
    if ¬ v513 = 0 then
      J_299_23_j1540 L xs B520 x4
    else
      (ix 0 1).bind fun i526 =>
      if (lg_cmp (B520.out i526) v519.toInt64) = 0 then
        J_299_23_j1540 L xs B520 x4
      else
        some (.inr (.inr (0, B520)))
  else
    some (.inr (.inr (0, B520)))
set_option maxRecDepth 200000 in
theorem j_299_23_j1487 {d : Nat} (hd : 11 ≤ d) {L : Nat} {xs : Nat → Int32} {res : ARe} {B : Wd} {x4 : Int32} {o : (Int32 × Wd) ⊕ (Wd) ⊕ (Int32 × Wd)} (hr : J_299_23_j1487 L xs B x4 = some o) (ka : ∀ s, o = .inl s → Ex d am_M299 (some (L, xs)) (P_299_23 L xs s) res) (kx : ∀ s, o = .inr (.inl s) → Ex d am_M299 (some (L, xs)) (PX_299_23 L xs s) res) (kr : ∀ r, o = .inr (.inr r) → res = (.inl (some (.int r.1)), mk r.2, Wd.kc r.2, Wd.kn r.2)) : Ex d am_M299 (some (L, xs)) (1487, [some (.ref am_SB), some (.ref 0), some (.ref 29), some (.ref 46), some (.int x4), none, none], [], (mk B), B.kc, B.kn) res := by
  delta J_299_23_j1487 at hr
  refine x_ldan rfl rfl rfl ((rg_pp (W := B)).lt (i := 0) (show 0 < 1 by decide)) ?_
  refine x_ldsn rfl rfl rfl ?_
  refine x_b 3 (S2 := (1493, [some (.ref am_SB), some (.ref 0), some (.ref 29), some (.ref 46), some (.int x4), none, none], [.int (x4 + 1), .ref am_SB, .ref 0], (mk B), B.kc, B.kn)) rfl ?_
  obtain ⟨i510, h511, hr⟩ := bd_some hr
  refine x_sld rfl rfl h511 ?_
  refine x_ldan rfl rfl rfl ((rg_out (W := B)).lt (i := 0) (show 0 < 1 by decide)) ?_
  obtain ⟨⟨v513, B514⟩, h512, hr⟩ := bd_some hr
  refine x_cW (m_282 h512) rfl rfl rfl rfl rfl (by omega) ?_
  refine x_b 1 (S2 := (1500, [some (.ref am_SB), some (.ref 0), some (.ref 29), some (.ref 46), some (.int x4), some (.int v513), none], [], (mk B514), B514.kc, B514.kn)) rfl ?_
  refine x_ldan rfl rfl rfl ((rg_md (W := B514)).lt (i := 0) (show 0 < 17 by decide)) ?_
  refine x_ldsn rfl rfl rfl ?_
  refine x_b 3 (S2 := (1506, [some (.ref am_SB), some (.ref 0), some (.ref 29), some (.ref 46), some (.int x4), some (.int v513), none], [.int (x4 + 1), .ref am_SB, .ref 29], (mk B514), B514.kc, B514.kn)) rfl ?_
  obtain ⟨i515, h516, hr⟩ := bd_some hr
  refine x_sld rfl rfl h516 ?_
  obtain ⟨⟨v519, o518⟩, h517, hr⟩ := bd_some hr
  obtain ⟨B520, h521, hr⟩ := bd_some hr
  refine x_cW (wc_md (fun H hb hh hH => m_204 hb hh h517) h521) rfl rfl rfl rfl (am_recv_v ((rg_md (W := B514)).lt (i := 0) (show 0 < 17 by decide)) ((rg_md (W := B514)).at (i := 0) rfl) rfl) (by omega) ?_
  refine x_b 1 (S2 := (1512, [some (.ref am_SB), some (.ref 0), some (.ref 29), some (.ref 46), some (.int x4), some (.int v513), some (.int v519)], [], (mk B520), B520.kc, B520.kn)) rfl ?_
  refine x_ldan rfl rfl rfl ((rg_md (W := B520)).lt (i := 0) (show 0 < 17 by decide)) ?_
  obtain ⟨v523, h522, hr⟩ := bd_some hr
  refine x_cW (RnW.of0 (m_133 (rg_md (W := B520)) h522) ⟨rfl, rfl⟩) rfl rfl rfl rfl (am_recv_v ((rg_md (W := B520)).lt (i := 0) (show 0 < 17 by decide)) ((rg_md (W := B520)).at (i := 0) rfl) rfl) (by omega) ?_
  refine x_b 1 (S2 := (1518, [some (.ref am_SB), some (.ref 0), some (.ref 29), some (.ref 46), some (.int x4), some (.int v513), some (.int v519)], [.int v513, .int v523], (mk B520), B520.kc, B520.kn)) rfl ?_
  rcases ite_some hr with ⟨h524, hr⟩ | ⟨h524, hr⟩
  · refine x_ct rfl rfl (decide_eq_true h524) ?_
    refine x_b 1 (S2 := (1525, [some (.ref am_SB), some (.ref 0), some (.ref 29), some (.ref 46), some (.int x4), some (.int v513), some (.int v519)], [.int v513], (mk B520), B520.kc, B520.kn)) rfl ?_
    rcases ite_some hr with ⟨h525, hr⟩ | ⟨h525, hr⟩
    · refine x_zt rfl rfl (decide_eq_true h525) ?_
      refine x_fg (Lq.s (Lq.s (Lq.s (Lq.s (Lq.s (Lq.n (Lq.n Lq.nil))))))) ?_
      exact j_299_23_j1540 hd hr ka kx kr
    · refine x_zf rfl rfl (decide_eq_false h525) ?_
      refine x_ldan rfl rfl rfl ((rg_out (W := B520)).lt (i := 0) (show 0 < 1 by decide)) ?_
      refine x_b 1 (S2 := (1530, [some (.ref am_SB), some (.ref 0), some (.ref 29), some (.ref 46), some (.int x4), some (.int v513), some (.int v519)], [.int 0, .ref 46], (mk B520), B520.kc, B520.kn)) rfl ?_
      obtain ⟨i526, h527, hr⟩ := bd_some hr
      refine x_lald rfl rfl ((rg_out (W := B520)).lt (i := 0) (show 0 < 1 by decide)) ((rg_out (W := B520)).at (i := 0) rfl) h527 ?_
      refine x_b 3 (S2 := (1535, [some (.ref am_SB), some (.ref 0), some (.ref 29), some (.ref 46), some (.int x4), some (.int v513), some (.int v519)], [.int (lg_cmp (B520.out i526) v519.toInt64)], (mk B520), B520.kc, B520.kn)) rfl ?_
      rcases ite_some hr with ⟨h528, hr⟩ | ⟨h528, hr⟩
      · refine x_zt rfl rfl (decide_eq_true h528) ?_
        refine x_fg (Lq.s (Lq.s (Lq.s (Lq.s (Lq.s (Lq.n (Lq.n Lq.nil))))))) ?_
        exact j_299_23_j1540 hd hr ka kx kr
      · refine x_zf rfl rfl (decide_eq_false h528) ?_
        refine x_b 1 (S2 := (1539, [some (.ref am_SB), some (.ref 0), some (.ref 29), some (.ref 46), some (.int x4), some (.int v513), some (.int v519)], [.int 0], (mk B520), B520.kc, B520.kn)) rfl ?_
        rw [kr _ (Option.some.inj hr).symm]
        exact x_ret rfl rfl (am_ret_z (by decide))
  · refine x_cf rfl rfl (decide_eq_false h524) ?_
    refine x_b 1 (S2 := (1522, [some (.ref am_SB), some (.ref 0), some (.ref 29), some (.ref 46), some (.int x4), some (.int v513), some (.int v519)], [.int 0], (mk B520), B520.kc, B520.kn)) rfl ?_
    rw [kr _ (Option.some.inj hr).symm]
    exact x_ret rfl rfl (am_ret_z (by decide))
def J_299_23_j1603 (L : Nat) (xs : Nat → Int32) (B : Wd) (x4 : Int32) : Option ((Int32 × Wd) ⊕ (Wd) ⊕ (Int32 × Wd)) :=
  J_299_23_j2564 L xs B x4
set_option maxRecDepth 200000 in
theorem j_299_23_j1603 {d : Nat} (hd : 11 ≤ d) {L : Nat} {xs : Nat → Int32} {res : ARe} {B : Wd} {x4 : Int32} {o : (Int32 × Wd) ⊕ (Wd) ⊕ (Int32 × Wd)} (hr : J_299_23_j1603 L xs B x4 = some o) (ka : ∀ s, o = .inl s → Ex d am_M299 (some (L, xs)) (P_299_23 L xs s) res) (kx : ∀ s, o = .inr (.inl s) → Ex d am_M299 (some (L, xs)) (PX_299_23 L xs s) res) (kr : ∀ r, o = .inr (.inr r) → res = (.inl (some (.int r.1)), mk r.2, Wd.kc r.2, Wd.kn r.2)) : Ex d am_M299 (some (L, xs)) (1603, [some (.ref am_SB), some (.ref 0), some (.ref 29), some (.ref 46), some (.int x4), none, none], [], (mk B), B.kc, B.kn) res := by
  delta J_299_23_j1603 at hr
  refine x_b 1 (S2 := (2564, [some (.ref am_SB), some (.ref 0), some (.ref 29), some (.ref 46), some (.int x4), none, none], [], (mk B), B.kc, B.kn)) rfl ?_
  refine x_fg (Lq.s (Lq.s (Lq.s (Lq.s (Lq.s (Lq.s (Lq.s Lq.nil))))))) ?_
  exact j_299_23_j2564 hd hr ka kx kr
def J_299_23_j1597 (L : Nat) (xs : Nat → Int32) (B : Wd) (x4 : Int32) (t0 : Int64) (t1 : Int64) : Option ((Int32 × Wd) ⊕ (Wd) ⊕ (Int32 × Wd)) :=
  if (lg_cmp t1 t0) = 0 then
    J_299_23_j1603 L xs B x4
  else
    some (.inr (.inr (0, B)))
set_option maxRecDepth 200000 in
theorem j_299_23_j1597 {d : Nat} (hd : 11 ≤ d) {L : Nat} {xs : Nat → Int32} {res : ARe} {B : Wd} {x4 : Int32} {t0 : Int64} {t1 : Int64} {o : (Int32 × Wd) ⊕ (Wd) ⊕ (Int32 × Wd)} (hr : J_299_23_j1597 L xs B x4 t0 t1 = some o) (ka : ∀ s, o = .inl s → Ex d am_M299 (some (L, xs)) (P_299_23 L xs s) res) (kx : ∀ s, o = .inr (.inl s) → Ex d am_M299 (some (L, xs)) (PX_299_23 L xs s) res) (kr : ∀ r, o = .inr (.inr r) → res = (.inl (some (.int r.1)), mk r.2, Wd.kc r.2, Wd.kn r.2)) : Ex d am_M299 (some (L, xs)) (1597, [some (.ref am_SB), some (.ref 0), some (.ref 29), some (.ref 46), some (.int x4), none, none], [.long t0, .long t1], (mk B), B.kc, B.kn) res := by
  delta J_299_23_j1597 at hr
  refine x_b 1 (S2 := (1598, [some (.ref am_SB), some (.ref 0), some (.ref 29), some (.ref 46), some (.int x4), none, none], [.int (lg_cmp t1 t0)], (mk B), B.kc, B.kn)) rfl ?_
  rcases ite_some hr with ⟨h551, hr⟩ | ⟨h551, hr⟩
  · refine x_zt rfl rfl (decide_eq_true h551) ?_
    refine x_fg (Lq.s (Lq.s (Lq.s (Lq.s (Lq.s (Lq.s (Lq.s Lq.nil))))))) ?_
    exact j_299_23_j1603 hd hr ka kx kr
  · refine x_zf rfl rfl (decide_eq_false h551) ?_
    refine x_b 1 (S2 := (1602, [some (.ref am_SB), some (.ref 0), some (.ref 29), some (.ref 46), some (.int x4), none, none], [.int 0], (mk B), B.kc, B.kn)) rfl ?_
    rw [kr _ (Option.some.inj hr).symm]
    exact x_ret rfl rfl (am_ret_z (by decide))
def J_299_23_j1543 (L : Nat) (xs : Nat → Int32) (B : Wd) (x4 : Int32) : Option ((Int32 × Wd) ⊕ (Wd) ⊕ (Int32 × Wd)) :=
  (ix (x4 + 1) L).bind fun i532 =>
  (F_283 B (xs i532)).bind fun (v535, B536) =>
  (ix (x4 + 1) L).bind fun i537 =>
  (F_211 B536.md (xs i537)).bind fun (v541, o540) =>
  (some (B536.w_md o540)).bind fun B542 =>
  (F_133 B542.md).bind fun v545 =>
  if v545 = v535 then
    if ¬ v535 = 0 then
      J_299_23_j1603 L xs B542 x4
    else
      (ix 0 1).bind fun i548 =>
      if v541 = 0 then
        J_299_23_j1597 L xs B542 x4 0 (B542.out i548)
      else
        J_299_23_j1597 L xs B542 x4 1 (B542.out i548)
  else
    some (.inr (.inr (0, B542)))
set_option maxRecDepth 200000 in
theorem j_299_23_j1543 {d : Nat} (hd : 11 ≤ d) {L : Nat} {xs : Nat → Int32} {res : ARe} {B : Wd} {x4 : Int32} {o : (Int32 × Wd) ⊕ (Wd) ⊕ (Int32 × Wd)} (hr : J_299_23_j1543 L xs B x4 = some o) (ka : ∀ s, o = .inl s → Ex d am_M299 (some (L, xs)) (P_299_23 L xs s) res) (kx : ∀ s, o = .inr (.inl s) → Ex d am_M299 (some (L, xs)) (PX_299_23 L xs s) res) (kr : ∀ r, o = .inr (.inr r) → res = (.inl (some (.int r.1)), mk r.2, Wd.kc r.2, Wd.kn r.2)) : Ex d am_M299 (some (L, xs)) (1543, [some (.ref am_SB), some (.ref 0), some (.ref 29), some (.ref 46), some (.int x4), none, none], [], (mk B), B.kc, B.kn) res := by
  delta J_299_23_j1543 at hr
  refine x_ldan rfl rfl rfl ((rg_pp (W := B)).lt (i := 0) (show 0 < 1 by decide)) ?_
  refine x_ldsn rfl rfl rfl ?_
  refine x_b 3 (S2 := (1549, [some (.ref am_SB), some (.ref 0), some (.ref 29), some (.ref 46), some (.int x4), none, none], [.int (x4 + 1), .ref am_SB, .ref 0], (mk B), B.kc, B.kn)) rfl ?_
  obtain ⟨i532, h533, hr⟩ := bd_some hr
  refine x_sld rfl rfl h533 ?_
  refine x_ldan rfl rfl rfl ((rg_out (W := B)).lt (i := 0) (show 0 < 1 by decide)) ?_
  obtain ⟨⟨v535, B536⟩, h534, hr⟩ := bd_some hr
  refine x_cW (m_283 h534) rfl rfl rfl rfl rfl (by omega) ?_
  refine x_b 1 (S2 := (1556, [some (.ref am_SB), some (.ref 0), some (.ref 29), some (.ref 46), some (.int x4), some (.int v535), none], [], (mk B536), B536.kc, B536.kn)) rfl ?_
  refine x_ldan rfl rfl rfl ((rg_md (W := B536)).lt (i := 0) (show 0 < 17 by decide)) ?_
  refine x_ldsn rfl rfl rfl ?_
  refine x_b 3 (S2 := (1562, [some (.ref am_SB), some (.ref 0), some (.ref 29), some (.ref 46), some (.int x4), some (.int v535), none], [.int (x4 + 1), .ref am_SB, .ref 29], (mk B536), B536.kc, B536.kn)) rfl ?_
  obtain ⟨i537, h538, hr⟩ := bd_some hr
  refine x_sld rfl rfl h538 ?_
  obtain ⟨⟨v541, o540⟩, h539, hr⟩ := bd_some hr
  obtain ⟨B542, h543, hr⟩ := bd_some hr
  refine x_cW (wc_md (fun H hb hh hH => m_211 hb hh h539) h543) rfl rfl rfl rfl (am_recv_v ((rg_md (W := B536)).lt (i := 0) (show 0 < 17 by decide)) ((rg_md (W := B536)).at (i := 0) rfl) rfl) (by omega) ?_
  refine x_b 1 (S2 := (1568, [some (.ref am_SB), some (.ref 0), some (.ref 29), some (.ref 46), some (.int x4), some (.int v535), some (.int v541)], [], (mk B542), B542.kc, B542.kn)) rfl ?_
  refine x_ldan rfl rfl rfl ((rg_md (W := B542)).lt (i := 0) (show 0 < 17 by decide)) ?_
  obtain ⟨v545, h544, hr⟩ := bd_some hr
  refine x_cW (RnW.of0 (m_133 (rg_md (W := B542)) h544) ⟨rfl, rfl⟩) rfl rfl rfl rfl (am_recv_v ((rg_md (W := B542)).lt (i := 0) (show 0 < 17 by decide)) ((rg_md (W := B542)).at (i := 0) rfl) rfl) (by omega) ?_
  refine x_b 1 (S2 := (1574, [some (.ref am_SB), some (.ref 0), some (.ref 29), some (.ref 46), some (.int x4), some (.int v535), some (.int v541)], [.int v535, .int v545], (mk B542), B542.kc, B542.kn)) rfl ?_
  rcases ite_some hr with ⟨h546, hr⟩ | ⟨h546, hr⟩
  · refine x_ct rfl rfl (decide_eq_true h546) ?_
    refine x_b 1 (S2 := (1581, [some (.ref am_SB), some (.ref 0), some (.ref 29), some (.ref 46), some (.int x4), some (.int v535), some (.int v541)], [.int v535], (mk B542), B542.kc, B542.kn)) rfl ?_
    rcases ite_some hr with ⟨h547, hr⟩ | ⟨h547, hr⟩
    · refine x_zt rfl rfl (decide_eq_true h547) ?_
      refine x_fg (Lq.s (Lq.s (Lq.s (Lq.s (Lq.s (Lq.n (Lq.n Lq.nil))))))) ?_
      exact j_299_23_j1603 hd hr ka kx kr
    · refine x_zf rfl rfl (decide_eq_false h547) ?_
      refine x_ldan rfl rfl rfl ((rg_out (W := B542)).lt (i := 0) (show 0 < 1 by decide)) ?_
      refine x_b 1 (S2 := (1586, [some (.ref am_SB), some (.ref 0), some (.ref 29), some (.ref 46), some (.int x4), some (.int v535), some (.int v541)], [.int 0, .ref 46], (mk B542), B542.kc, B542.kn)) rfl ?_
      obtain ⟨i548, h549, hr⟩ := bd_some hr
      refine x_lald rfl rfl ((rg_out (W := B542)).lt (i := 0) (show 0 < 1 by decide)) ((rg_out (W := B542)).at (i := 0) rfl) h549 ?_
      refine x_b 1 (S2 := (1589, [some (.ref am_SB), some (.ref 0), some (.ref 29), some (.ref 46), some (.int x4), some (.int v535), some (.int v541)], [.int v541, .long (B542.out i548)], (mk B542), B542.kc, B542.kn)) rfl ?_
      rcases ite_some hr with ⟨h550, hr⟩ | ⟨h550, hr⟩
      · refine x_zt rfl rfl (decide_eq_true h550) ?_
        refine x_b 1 (S2 := (1597, [some (.ref am_SB), some (.ref 0), some (.ref 29), some (.ref 46), some (.int x4), some (.int v535), some (.int v541)], [.long 0, .long (B542.out i548)], (mk B542), B542.kc, B542.kn)) rfl ?_
        refine x_fg (Lq.s (Lq.s (Lq.s (Lq.s (Lq.s (Lq.n (Lq.n Lq.nil))))))) ?_
        exact j_299_23_j1597 hd hr ka kx kr
      · refine x_zf rfl rfl (decide_eq_false h550) ?_
        refine x_b 2 (S2 := (1597, [some (.ref am_SB), some (.ref 0), some (.ref 29), some (.ref 46), some (.int x4), some (.int v535), some (.int v541)], [.long 1, .long (B542.out i548)], (mk B542), B542.kc, B542.kn)) rfl ?_
        refine x_fg (Lq.s (Lq.s (Lq.s (Lq.s (Lq.s (Lq.n (Lq.n Lq.nil))))))) ?_
        exact j_299_23_j1597 hd hr ka kx kr
  · refine x_cf rfl rfl (decide_eq_false h546) ?_
    refine x_b 1 (S2 := (1578, [some (.ref am_SB), some (.ref 0), some (.ref 29), some (.ref 46), some (.int x4), some (.int v535), some (.int v541)], [.int 0], (mk B542), B542.kc, B542.kn)) rfl ?_
    rw [kr _ (Option.some.inj hr).symm]
    exact x_ret rfl rfl (am_ret_z (by decide))
def J_299_23_j1606 (L : Nat) (xs : Nat → Int32) (B : Wd) (x4 : Int32) : Option ((Int32 × Wd) ⊕ (Wd) ⊕ (Int32 × Wd)) :=
  (F_105 B).bind fun (v556, B557) =>
  (F_212 B557.md).bind fun (v560, o559) =>
  (some (B557.w_md o559)).bind fun B561 =>
  if v556 = v560 then
    J_299_23_j2564 L xs B561 x4
  else
    some (.inr (.inr (0, B561)))
set_option maxRecDepth 200000 in
theorem j_299_23_j1606 {d : Nat} (hd : 11 ≤ d) {L : Nat} {xs : Nat → Int32} {res : ARe} {B : Wd} {x4 : Int32} {o : (Int32 × Wd) ⊕ (Wd) ⊕ (Int32 × Wd)} (hr : J_299_23_j1606 L xs B x4 = some o) (ka : ∀ s, o = .inl s → Ex d am_M299 (some (L, xs)) (P_299_23 L xs s) res) (kx : ∀ s, o = .inr (.inl s) → Ex d am_M299 (some (L, xs)) (PX_299_23 L xs s) res) (kr : ∀ r, o = .inr (.inr r) → res = (.inl (some (.int r.1)), mk r.2, Wd.kc r.2, Wd.kn r.2)) : Ex d am_M299 (some (L, xs)) (1606, [some (.ref am_SB), some (.ref 0), some (.ref 29), some (.ref 46), some (.int x4), none, none], [], (mk B), B.kc, B.kn) res := by
  delta J_299_23_j1606 at hr
  refine x_ldan rfl rfl rfl ((rg_pp (W := B)).lt (i := 0) (show 0 < 1 by decide)) ?_
  obtain ⟨⟨v556, B557⟩, h555, hr⟩ := bd_some hr
  refine x_cW (m_105 h555) rfl rfl rfl rfl (am_recv_v ((rg_pp (W := B)).lt (i := 0) (show 0 < 1 by decide)) ((rg_pp (W := B)).at (i := 0) rfl) rfl) (by omega) ?_
  refine x_ldan rfl rfl rfl ((rg_md (W := B557)).lt (i := 0) (show 0 < 17 by decide)) ?_
  obtain ⟨⟨v560, o559⟩, h558, hr⟩ := bd_some hr
  obtain ⟨B561, h562, hr⟩ := bd_some hr
  refine x_cW (wc_md (fun H hb hh hH => m_212 hb hh h558) h562) rfl rfl rfl rfl (am_recv_v ((rg_md (W := B557)).lt (i := 0) (show 0 < 17 by decide)) ((rg_md (W := B557)).at (i := 0) rfl) rfl) (by omega) ?_
  rcases ite_some hr with ⟨h563, hr⟩ | ⟨h563, hr⟩
  · refine x_ct rfl rfl (decide_eq_true h563) ?_
    refine x_fg (Lq.s (Lq.s (Lq.s (Lq.s (Lq.s (Lq.s (Lq.s Lq.nil))))))) ?_
    exact j_299_23_j2564 hd hr ka kx kr
  · refine x_cf rfl rfl (decide_eq_false h563) ?_
    refine x_b 1 (S2 := (1618, [some (.ref am_SB), some (.ref 0), some (.ref 29), some (.ref 46), some (.int x4), none, none], [.int 0], (mk B561), B561.kc, B561.kn)) rfl ?_
    rw [kr _ (Option.some.inj hr).symm]
    exact x_ret rfl rfl (am_ret_z (by decide))
def J_299_23_j1672 (L : Nat) (xs : Nat → Int32) (B : Wd) (x4 : Int32) : Option ((Int32 × Wd) ⊕ (Wd) ⊕ (Int32 × Wd)) :=
  J_299_23_j2564 L xs B x4
set_option maxRecDepth 200000 in
theorem j_299_23_j1672 {d : Nat} (hd : 11 ≤ d) {L : Nat} {xs : Nat → Int32} {res : ARe} {B : Wd} {x4 : Int32} {o : (Int32 × Wd) ⊕ (Wd) ⊕ (Int32 × Wd)} (hr : J_299_23_j1672 L xs B x4 = some o) (ka : ∀ s, o = .inl s → Ex d am_M299 (some (L, xs)) (P_299_23 L xs s) res) (kx : ∀ s, o = .inr (.inl s) → Ex d am_M299 (some (L, xs)) (PX_299_23 L xs s) res) (kr : ∀ r, o = .inr (.inr r) → res = (.inl (some (.int r.1)), mk r.2, Wd.kc r.2, Wd.kn r.2)) : Ex d am_M299 (some (L, xs)) (1672, [some (.ref am_SB), some (.ref 0), some (.ref 29), some (.ref 46), some (.int x4), none, none], [], (mk B), B.kc, B.kn) res := by
  delta J_299_23_j1672 at hr
  refine x_b 1 (S2 := (2564, [some (.ref am_SB), some (.ref 0), some (.ref 29), some (.ref 46), some (.int x4), none, none], [], (mk B), B.kc, B.kn)) rfl ?_
  refine x_fg (Lq.s (Lq.s (Lq.s (Lq.s (Lq.s (Lq.s (Lq.s Lq.nil))))))) ?_
  exact j_299_23_j2564 hd hr ka kx kr
def J_299_23_j1619 (L : Nat) (xs : Nat → Int32) (B : Wd) (x4 : Int32) : Option ((Int32 × Wd) ⊕ (Wd) ⊕ (Int32 × Wd)) :=
  (ix (x4 + 1) L).bind fun i566 =>
  (F_284 B (xs i566)).bind fun (v569, B570) =>
  (ix (x4 + 1) L).bind fun i571 =>
  (F_215 B570.md (xs i571)).bind fun (v575, o574) =>
  (some (B570.w_md o574)).bind fun B576 =>
  (F_133 B576.md).bind fun v579 =>
  if v579 = v569 then
    if ¬ v569 = 0 then
      J_299_23_j1672 L xs B576 x4
    else
      (ix 0 1).bind fun i582 =>
      if (lg_cmp (B576.out i582) v575.toInt64) = 0 then
        J_299_23_j1672 L xs B576 x4
      else
        some (.inr (.inr (0, B576)))
  else
    some (.inr (.inr (0, B576)))
set_option maxRecDepth 200000 in
theorem j_299_23_j1619 {d : Nat} (hd : 11 ≤ d) {L : Nat} {xs : Nat → Int32} {res : ARe} {B : Wd} {x4 : Int32} {o : (Int32 × Wd) ⊕ (Wd) ⊕ (Int32 × Wd)} (hr : J_299_23_j1619 L xs B x4 = some o) (ka : ∀ s, o = .inl s → Ex d am_M299 (some (L, xs)) (P_299_23 L xs s) res) (kx : ∀ s, o = .inr (.inl s) → Ex d am_M299 (some (L, xs)) (PX_299_23 L xs s) res) (kr : ∀ r, o = .inr (.inr r) → res = (.inl (some (.int r.1)), mk r.2, Wd.kc r.2, Wd.kn r.2)) : Ex d am_M299 (some (L, xs)) (1619, [some (.ref am_SB), some (.ref 0), some (.ref 29), some (.ref 46), some (.int x4), none, none], [], (mk B), B.kc, B.kn) res := by
  delta J_299_23_j1619 at hr
  refine x_ldan rfl rfl rfl ((rg_pp (W := B)).lt (i := 0) (show 0 < 1 by decide)) ?_
  refine x_ldsn rfl rfl rfl ?_
  refine x_b 3 (S2 := (1625, [some (.ref am_SB), some (.ref 0), some (.ref 29), some (.ref 46), some (.int x4), none, none], [.int (x4 + 1), .ref am_SB, .ref 0], (mk B), B.kc, B.kn)) rfl ?_
  obtain ⟨i566, h567, hr⟩ := bd_some hr
  refine x_sld rfl rfl h567 ?_
  refine x_ldan rfl rfl rfl ((rg_out (W := B)).lt (i := 0) (show 0 < 1 by decide)) ?_
  obtain ⟨⟨v569, B570⟩, h568, hr⟩ := bd_some hr
  refine x_cW (m_284 h568) rfl rfl rfl rfl rfl (by omega) ?_
  refine x_b 1 (S2 := (1632, [some (.ref am_SB), some (.ref 0), some (.ref 29), some (.ref 46), some (.int x4), some (.int v569), none], [], (mk B570), B570.kc, B570.kn)) rfl ?_
  refine x_ldan rfl rfl rfl ((rg_md (W := B570)).lt (i := 0) (show 0 < 17 by decide)) ?_
  refine x_ldsn rfl rfl rfl ?_
  refine x_b 3 (S2 := (1638, [some (.ref am_SB), some (.ref 0), some (.ref 29), some (.ref 46), some (.int x4), some (.int v569), none], [.int (x4 + 1), .ref am_SB, .ref 29], (mk B570), B570.kc, B570.kn)) rfl ?_
  obtain ⟨i571, h572, hr⟩ := bd_some hr
  refine x_sld rfl rfl h572 ?_
  obtain ⟨⟨v575, o574⟩, h573, hr⟩ := bd_some hr
  obtain ⟨B576, h577, hr⟩ := bd_some hr
  refine x_cW (wc_md (fun H hb hh hH => m_215 hb hh h573) h577) rfl rfl rfl rfl (am_recv_v ((rg_md (W := B570)).lt (i := 0) (show 0 < 17 by decide)) ((rg_md (W := B570)).at (i := 0) rfl) rfl) (by omega) ?_
  refine x_b 1 (S2 := (1644, [some (.ref am_SB), some (.ref 0), some (.ref 29), some (.ref 46), some (.int x4), some (.int v569), some (.int v575)], [], (mk B576), B576.kc, B576.kn)) rfl ?_
  refine x_ldan rfl rfl rfl ((rg_md (W := B576)).lt (i := 0) (show 0 < 17 by decide)) ?_
  obtain ⟨v579, h578, hr⟩ := bd_some hr
  refine x_cW (RnW.of0 (m_133 (rg_md (W := B576)) h578) ⟨rfl, rfl⟩) rfl rfl rfl rfl (am_recv_v ((rg_md (W := B576)).lt (i := 0) (show 0 < 17 by decide)) ((rg_md (W := B576)).at (i := 0) rfl) rfl) (by omega) ?_
  refine x_b 1 (S2 := (1650, [some (.ref am_SB), some (.ref 0), some (.ref 29), some (.ref 46), some (.int x4), some (.int v569), some (.int v575)], [.int v569, .int v579], (mk B576), B576.kc, B576.kn)) rfl ?_
  rcases ite_some hr with ⟨h580, hr⟩ | ⟨h580, hr⟩
  · refine x_ct rfl rfl (decide_eq_true h580) ?_
    refine x_b 1 (S2 := (1657, [some (.ref am_SB), some (.ref 0), some (.ref 29), some (.ref 46), some (.int x4), some (.int v569), some (.int v575)], [.int v569], (mk B576), B576.kc, B576.kn)) rfl ?_
    rcases ite_some hr with ⟨h581, hr⟩ | ⟨h581, hr⟩
    · refine x_zt rfl rfl (decide_eq_true h581) ?_
      refine x_fg (Lq.s (Lq.s (Lq.s (Lq.s (Lq.s (Lq.n (Lq.n Lq.nil))))))) ?_
      exact j_299_23_j1672 hd hr ka kx kr
    · refine x_zf rfl rfl (decide_eq_false h581) ?_
      refine x_ldan rfl rfl rfl ((rg_out (W := B576)).lt (i := 0) (show 0 < 1 by decide)) ?_
      refine x_b 1 (S2 := (1662, [some (.ref am_SB), some (.ref 0), some (.ref 29), some (.ref 46), some (.int x4), some (.int v569), some (.int v575)], [.int 0, .ref 46], (mk B576), B576.kc, B576.kn)) rfl ?_
      obtain ⟨i582, h583, hr⟩ := bd_some hr
      refine x_lald rfl rfl ((rg_out (W := B576)).lt (i := 0) (show 0 < 1 by decide)) ((rg_out (W := B576)).at (i := 0) rfl) h583 ?_
      refine x_b 3 (S2 := (1667, [some (.ref am_SB), some (.ref 0), some (.ref 29), some (.ref 46), some (.int x4), some (.int v569), some (.int v575)], [.int (lg_cmp (B576.out i582) v575.toInt64)], (mk B576), B576.kc, B576.kn)) rfl ?_
      rcases ite_some hr with ⟨h584, hr⟩ | ⟨h584, hr⟩
      · refine x_zt rfl rfl (decide_eq_true h584) ?_
        refine x_fg (Lq.s (Lq.s (Lq.s (Lq.s (Lq.s (Lq.n (Lq.n Lq.nil))))))) ?_
        exact j_299_23_j1672 hd hr ka kx kr
      · refine x_zf rfl rfl (decide_eq_false h584) ?_
        refine x_b 1 (S2 := (1671, [some (.ref am_SB), some (.ref 0), some (.ref 29), some (.ref 46), some (.int x4), some (.int v569), some (.int v575)], [.int 0], (mk B576), B576.kc, B576.kn)) rfl ?_
        rw [kr _ (Option.some.inj hr).symm]
        exact x_ret rfl rfl (am_ret_z (by decide))
  · refine x_cf rfl rfl (decide_eq_false h580) ?_
    refine x_b 1 (S2 := (1654, [some (.ref am_SB), some (.ref 0), some (.ref 29), some (.ref 46), some (.int x4), some (.int v569), some (.int v575)], [.int 0], (mk B576), B576.kc, B576.kn)) rfl ?_
    rw [kr _ (Option.some.inj hr).symm]
    exact x_ret rfl rfl (am_ret_z (by decide))
def J_299_23_j1728 (L : Nat) (xs : Nat → Int32) (B : Wd) (x4 : Int32) : Option ((Int32 × Wd) ⊕ (Wd) ⊕ (Int32 × Wd)) :=
  J_299_23_j2564 L xs B x4
set_option maxRecDepth 200000 in
theorem j_299_23_j1728 {d : Nat} (hd : 11 ≤ d) {L : Nat} {xs : Nat → Int32} {res : ARe} {B : Wd} {x4 : Int32} {o : (Int32 × Wd) ⊕ (Wd) ⊕ (Int32 × Wd)} (hr : J_299_23_j1728 L xs B x4 = some o) (ka : ∀ s, o = .inl s → Ex d am_M299 (some (L, xs)) (P_299_23 L xs s) res) (kx : ∀ s, o = .inr (.inl s) → Ex d am_M299 (some (L, xs)) (PX_299_23 L xs s) res) (kr : ∀ r, o = .inr (.inr r) → res = (.inl (some (.int r.1)), mk r.2, Wd.kc r.2, Wd.kn r.2)) : Ex d am_M299 (some (L, xs)) (1728, [some (.ref am_SB), some (.ref 0), some (.ref 29), some (.ref 46), some (.int x4), none, none], [], (mk B), B.kc, B.kn) res := by
  delta J_299_23_j1728 at hr
  refine x_b 1 (S2 := (2564, [some (.ref am_SB), some (.ref 0), some (.ref 29), some (.ref 46), some (.int x4), none, none], [], (mk B), B.kc, B.kn)) rfl ?_
  refine x_fg (Lq.s (Lq.s (Lq.s (Lq.s (Lq.s (Lq.s (Lq.s Lq.nil))))))) ?_
  exact j_299_23_j2564 hd hr ka kx kr
def J_299_23_j1675 (L : Nat) (xs : Nat → Int32) (B : Wd) (x4 : Int32) : Option ((Int32 × Wd) ⊕ (Wd) ⊕ (Int32 × Wd)) :=
  (ix (x4 + 1) L).bind fun i588 =>
  (F_285 B (xs i588)).bind fun (v591, B592) =>
  (ix (x4 + 1) L).bind fun i593 =>
  (F_223 B592.md (xs i593)).bind fun (v597, o596) =>
  (some (B592.w_md o596)).bind fun B598 =>
  (F_133 B598.md).bind fun v601 =>
  if v601 = v591 then
    if ¬ v591 = 0 then
      J_299_23_j1728 L xs B598 x4
    else
      (ix 0 1).bind fun i604 =>
      if (lg_cmp (B598.out i604) v597.toInt64) = 0 then
        J_299_23_j1728 L xs B598 x4
      else
        some (.inr (.inr (0, B598)))
  else
    some (.inr (.inr (0, B598)))
set_option maxRecDepth 200000 in
theorem j_299_23_j1675 {d : Nat} (hd : 11 ≤ d) {L : Nat} {xs : Nat → Int32} {res : ARe} {B : Wd} {x4 : Int32} {o : (Int32 × Wd) ⊕ (Wd) ⊕ (Int32 × Wd)} (hr : J_299_23_j1675 L xs B x4 = some o) (ka : ∀ s, o = .inl s → Ex d am_M299 (some (L, xs)) (P_299_23 L xs s) res) (kx : ∀ s, o = .inr (.inl s) → Ex d am_M299 (some (L, xs)) (PX_299_23 L xs s) res) (kr : ∀ r, o = .inr (.inr r) → res = (.inl (some (.int r.1)), mk r.2, Wd.kc r.2, Wd.kn r.2)) : Ex d am_M299 (some (L, xs)) (1675, [some (.ref am_SB), some (.ref 0), some (.ref 29), some (.ref 46), some (.int x4), none, none], [], (mk B), B.kc, B.kn) res := by
  delta J_299_23_j1675 at hr
  refine x_ldan rfl rfl rfl ((rg_pp (W := B)).lt (i := 0) (show 0 < 1 by decide)) ?_
  refine x_ldsn rfl rfl rfl ?_
  refine x_b 3 (S2 := (1681, [some (.ref am_SB), some (.ref 0), some (.ref 29), some (.ref 46), some (.int x4), none, none], [.int (x4 + 1), .ref am_SB, .ref 0], (mk B), B.kc, B.kn)) rfl ?_
  obtain ⟨i588, h589, hr⟩ := bd_some hr
  refine x_sld rfl rfl h589 ?_
  refine x_ldan rfl rfl rfl ((rg_out (W := B)).lt (i := 0) (show 0 < 1 by decide)) ?_
  obtain ⟨⟨v591, B592⟩, h590, hr⟩ := bd_some hr
  refine x_cW (m_285 h590) rfl rfl rfl rfl rfl (by omega) ?_
  refine x_b 1 (S2 := (1688, [some (.ref am_SB), some (.ref 0), some (.ref 29), some (.ref 46), some (.int x4), some (.int v591), none], [], (mk B592), B592.kc, B592.kn)) rfl ?_
  refine x_ldan rfl rfl rfl ((rg_md (W := B592)).lt (i := 0) (show 0 < 17 by decide)) ?_
  refine x_ldsn rfl rfl rfl ?_
  refine x_b 3 (S2 := (1694, [some (.ref am_SB), some (.ref 0), some (.ref 29), some (.ref 46), some (.int x4), some (.int v591), none], [.int (x4 + 1), .ref am_SB, .ref 29], (mk B592), B592.kc, B592.kn)) rfl ?_
  obtain ⟨i593, h594, hr⟩ := bd_some hr
  refine x_sld rfl rfl h594 ?_
  obtain ⟨⟨v597, o596⟩, h595, hr⟩ := bd_some hr
  obtain ⟨B598, h599, hr⟩ := bd_some hr
  refine x_cW (wc_md (fun H hb hh hH => m_223 hb hh h595) h599) rfl rfl rfl rfl (am_recv_v ((rg_md (W := B592)).lt (i := 0) (show 0 < 17 by decide)) ((rg_md (W := B592)).at (i := 0) rfl) rfl) (by omega) ?_
  refine x_b 1 (S2 := (1700, [some (.ref am_SB), some (.ref 0), some (.ref 29), some (.ref 46), some (.int x4), some (.int v591), some (.int v597)], [], (mk B598), B598.kc, B598.kn)) rfl ?_
  refine x_ldan rfl rfl rfl ((rg_md (W := B598)).lt (i := 0) (show 0 < 17 by decide)) ?_
  obtain ⟨v601, h600, hr⟩ := bd_some hr
  refine x_cW (RnW.of0 (m_133 (rg_md (W := B598)) h600) ⟨rfl, rfl⟩) rfl rfl rfl rfl (am_recv_v ((rg_md (W := B598)).lt (i := 0) (show 0 < 17 by decide)) ((rg_md (W := B598)).at (i := 0) rfl) rfl) (by omega) ?_
  refine x_b 1 (S2 := (1706, [some (.ref am_SB), some (.ref 0), some (.ref 29), some (.ref 46), some (.int x4), some (.int v591), some (.int v597)], [.int v591, .int v601], (mk B598), B598.kc, B598.kn)) rfl ?_
  rcases ite_some hr with ⟨h602, hr⟩ | ⟨h602, hr⟩
  · refine x_ct rfl rfl (decide_eq_true h602) ?_
    refine x_b 1 (S2 := (1713, [some (.ref am_SB), some (.ref 0), some (.ref 29), some (.ref 46), some (.int x4), some (.int v591), some (.int v597)], [.int v591], (mk B598), B598.kc, B598.kn)) rfl ?_
    rcases ite_some hr with ⟨h603, hr⟩ | ⟨h603, hr⟩
    · refine x_zt rfl rfl (decide_eq_true h603) ?_
      refine x_fg (Lq.s (Lq.s (Lq.s (Lq.s (Lq.s (Lq.n (Lq.n Lq.nil))))))) ?_
      exact j_299_23_j1728 hd hr ka kx kr
    · refine x_zf rfl rfl (decide_eq_false h603) ?_
      refine x_ldan rfl rfl rfl ((rg_out (W := B598)).lt (i := 0) (show 0 < 1 by decide)) ?_
      refine x_b 1 (S2 := (1718, [some (.ref am_SB), some (.ref 0), some (.ref 29), some (.ref 46), some (.int x4), some (.int v591), some (.int v597)], [.int 0, .ref 46], (mk B598), B598.kc, B598.kn)) rfl ?_
      obtain ⟨i604, h605, hr⟩ := bd_some hr
      refine x_lald rfl rfl ((rg_out (W := B598)).lt (i := 0) (show 0 < 1 by decide)) ((rg_out (W := B598)).at (i := 0) rfl) h605 ?_
      refine x_b 3 (S2 := (1723, [some (.ref am_SB), some (.ref 0), some (.ref 29), some (.ref 46), some (.int x4), some (.int v591), some (.int v597)], [.int (lg_cmp (B598.out i604) v597.toInt64)], (mk B598), B598.kc, B598.kn)) rfl ?_
      rcases ite_some hr with ⟨h606, hr⟩ | ⟨h606, hr⟩
      · refine x_zt rfl rfl (decide_eq_true h606) ?_
        refine x_fg (Lq.s (Lq.s (Lq.s (Lq.s (Lq.s (Lq.n (Lq.n Lq.nil))))))) ?_
        exact j_299_23_j1728 hd hr ka kx kr
      · refine x_zf rfl rfl (decide_eq_false h606) ?_
        refine x_b 1 (S2 := (1727, [some (.ref am_SB), some (.ref 0), some (.ref 29), some (.ref 46), some (.int x4), some (.int v591), some (.int v597)], [.int 0], (mk B598), B598.kc, B598.kn)) rfl ?_
        rw [kr _ (Option.some.inj hr).symm]
        exact x_ret rfl rfl (am_ret_z (by decide))
  · refine x_cf rfl rfl (decide_eq_false h602) ?_
    refine x_b 1 (S2 := (1710, [some (.ref am_SB), some (.ref 0), some (.ref 29), some (.ref 46), some (.int x4), some (.int v591), some (.int v597)], [.int 0], (mk B598), B598.kc, B598.kn)) rfl ?_
    rw [kr _ (Option.some.inj hr).symm]
    exact x_ret rfl rfl (am_ret_z (by decide))
def J_299_23_j1731 (L : Nat) (xs : Nat → Int32) (B : Wd) (x4 : Int32) : Option ((Int32 × Wd) ⊕ (Wd) ⊕ (Int32 × Wd)) :=
  (F_108 B).bind fun (v611, B612) =>
  (F_224 B612.md).bind fun (v615, o614) =>
  (some (B612.w_md o614)).bind fun B616 =>
  if v611 = v615 then
    J_299_23_j2564 L xs B616 x4
  else
    some (.inr (.inr (0, B616)))
set_option maxRecDepth 200000 in
theorem j_299_23_j1731 {d : Nat} (hd : 11 ≤ d) {L : Nat} {xs : Nat → Int32} {res : ARe} {B : Wd} {x4 : Int32} {o : (Int32 × Wd) ⊕ (Wd) ⊕ (Int32 × Wd)} (hr : J_299_23_j1731 L xs B x4 = some o) (ka : ∀ s, o = .inl s → Ex d am_M299 (some (L, xs)) (P_299_23 L xs s) res) (kx : ∀ s, o = .inr (.inl s) → Ex d am_M299 (some (L, xs)) (PX_299_23 L xs s) res) (kr : ∀ r, o = .inr (.inr r) → res = (.inl (some (.int r.1)), mk r.2, Wd.kc r.2, Wd.kn r.2)) : Ex d am_M299 (some (L, xs)) (1731, [some (.ref am_SB), some (.ref 0), some (.ref 29), some (.ref 46), some (.int x4), none, none], [], (mk B), B.kc, B.kn) res := by
  delta J_299_23_j1731 at hr
  refine x_ldan rfl rfl rfl ((rg_pp (W := B)).lt (i := 0) (show 0 < 1 by decide)) ?_
  obtain ⟨⟨v611, B612⟩, h610, hr⟩ := bd_some hr
  refine x_cW (m_108 h610) rfl rfl rfl rfl (am_recv_v ((rg_pp (W := B)).lt (i := 0) (show 0 < 1 by decide)) ((rg_pp (W := B)).at (i := 0) rfl) rfl) (by omega) ?_
  refine x_ldan rfl rfl rfl ((rg_md (W := B612)).lt (i := 0) (show 0 < 17 by decide)) ?_
  obtain ⟨⟨v615, o614⟩, h613, hr⟩ := bd_some hr
  obtain ⟨B616, h617, hr⟩ := bd_some hr
  refine x_cW (wc_md (fun H hb hh hH => m_224 hb hh h613) h617) rfl rfl rfl rfl (am_recv_v ((rg_md (W := B612)).lt (i := 0) (show 0 < 17 by decide)) ((rg_md (W := B612)).at (i := 0) rfl) rfl) (by omega) ?_
  rcases ite_some hr with ⟨h618, hr⟩ | ⟨h618, hr⟩
  · refine x_ct rfl rfl (decide_eq_true h618) ?_
    refine x_fg (Lq.s (Lq.s (Lq.s (Lq.s (Lq.s (Lq.s (Lq.s Lq.nil))))))) ?_
    exact j_299_23_j2564 hd hr ka kx kr
  · refine x_cf rfl rfl (decide_eq_false h618) ?_
    refine x_b 1 (S2 := (1743, [some (.ref am_SB), some (.ref 0), some (.ref 29), some (.ref 46), some (.int x4), none, none], [.int 0], (mk B616), B616.kc, B616.kn)) rfl ?_
    rw [kr _ (Option.some.inj hr).symm]
    exact x_ret rfl rfl (am_ret_z (by decide))
def J_299_23_j1797 (L : Nat) (xs : Nat → Int32) (B : Wd) (x4 : Int32) : Option ((Int32 × Wd) ⊕ (Wd) ⊕ (Int32 × Wd)) :=
  J_299_23_j2564 L xs B x4
set_option maxRecDepth 200000 in
theorem j_299_23_j1797 {d : Nat} (hd : 11 ≤ d) {L : Nat} {xs : Nat → Int32} {res : ARe} {B : Wd} {x4 : Int32} {o : (Int32 × Wd) ⊕ (Wd) ⊕ (Int32 × Wd)} (hr : J_299_23_j1797 L xs B x4 = some o) (ka : ∀ s, o = .inl s → Ex d am_M299 (some (L, xs)) (P_299_23 L xs s) res) (kx : ∀ s, o = .inr (.inl s) → Ex d am_M299 (some (L, xs)) (PX_299_23 L xs s) res) (kr : ∀ r, o = .inr (.inr r) → res = (.inl (some (.int r.1)), mk r.2, Wd.kc r.2, Wd.kn r.2)) : Ex d am_M299 (some (L, xs)) (1797, [some (.ref am_SB), some (.ref 0), some (.ref 29), some (.ref 46), some (.int x4), none, none], [], (mk B), B.kc, B.kn) res := by
  delta J_299_23_j1797 at hr
  refine x_b 1 (S2 := (2564, [some (.ref am_SB), some (.ref 0), some (.ref 29), some (.ref 46), some (.int x4), none, none], [], (mk B), B.kc, B.kn)) rfl ?_
  refine x_fg (Lq.s (Lq.s (Lq.s (Lq.s (Lq.s (Lq.s (Lq.s Lq.nil))))))) ?_
  exact j_299_23_j2564 hd hr ka kx kr
def J_299_23_j1744 (L : Nat) (xs : Nat → Int32) (B : Wd) (x4 : Int32) : Option ((Int32 × Wd) ⊕ (Wd) ⊕ (Int32 × Wd)) :=
  (ix (x4 + 1) L).bind fun i621 =>
  (F_286 B (xs i621)).bind fun (v624, B625) =>
  (ix (x4 + 1) L).bind fun i626 =>
  (F_228 B625.md (xs i626)).bind fun (v630, o629) =>
  (some (B625.w_md o629)).bind fun B631 =>
  (F_133 B631.md).bind fun v634 =>
  if v634 = v624 then
    if ¬ v624 = 0 then
      J_299_23_j1797 L xs B631 x4
    else
      (ix 0 1).bind fun i637 =>
      if (lg_cmp (B631.out i637) v630.toInt64) = 0 then
        J_299_23_j1797 L xs B631 x4
      else
        some (.inr (.inr (0, B631)))
  else
    some (.inr (.inr (0, B631)))
set_option maxRecDepth 200000 in
theorem j_299_23_j1744 {d : Nat} (hd : 11 ≤ d) {L : Nat} {xs : Nat → Int32} {res : ARe} {B : Wd} {x4 : Int32} {o : (Int32 × Wd) ⊕ (Wd) ⊕ (Int32 × Wd)} (hr : J_299_23_j1744 L xs B x4 = some o) (ka : ∀ s, o = .inl s → Ex d am_M299 (some (L, xs)) (P_299_23 L xs s) res) (kx : ∀ s, o = .inr (.inl s) → Ex d am_M299 (some (L, xs)) (PX_299_23 L xs s) res) (kr : ∀ r, o = .inr (.inr r) → res = (.inl (some (.int r.1)), mk r.2, Wd.kc r.2, Wd.kn r.2)) : Ex d am_M299 (some (L, xs)) (1744, [some (.ref am_SB), some (.ref 0), some (.ref 29), some (.ref 46), some (.int x4), none, none], [], (mk B), B.kc, B.kn) res := by
  delta J_299_23_j1744 at hr
  refine x_ldan rfl rfl rfl ((rg_pp (W := B)).lt (i := 0) (show 0 < 1 by decide)) ?_
  refine x_ldsn rfl rfl rfl ?_
  refine x_b 3 (S2 := (1750, [some (.ref am_SB), some (.ref 0), some (.ref 29), some (.ref 46), some (.int x4), none, none], [.int (x4 + 1), .ref am_SB, .ref 0], (mk B), B.kc, B.kn)) rfl ?_
  obtain ⟨i621, h622, hr⟩ := bd_some hr
  refine x_sld rfl rfl h622 ?_
  refine x_ldan rfl rfl rfl ((rg_out (W := B)).lt (i := 0) (show 0 < 1 by decide)) ?_
  obtain ⟨⟨v624, B625⟩, h623, hr⟩ := bd_some hr
  refine x_cW (m_286 h623) rfl rfl rfl rfl rfl (by omega) ?_
  refine x_b 1 (S2 := (1757, [some (.ref am_SB), some (.ref 0), some (.ref 29), some (.ref 46), some (.int x4), some (.int v624), none], [], (mk B625), B625.kc, B625.kn)) rfl ?_
  refine x_ldan rfl rfl rfl ((rg_md (W := B625)).lt (i := 0) (show 0 < 17 by decide)) ?_
  refine x_ldsn rfl rfl rfl ?_
  refine x_b 3 (S2 := (1763, [some (.ref am_SB), some (.ref 0), some (.ref 29), some (.ref 46), some (.int x4), some (.int v624), none], [.int (x4 + 1), .ref am_SB, .ref 29], (mk B625), B625.kc, B625.kn)) rfl ?_
  obtain ⟨i626, h627, hr⟩ := bd_some hr
  refine x_sld rfl rfl h627 ?_
  obtain ⟨⟨v630, o629⟩, h628, hr⟩ := bd_some hr
  obtain ⟨B631, h632, hr⟩ := bd_some hr
  refine x_cW (wc_md (fun H hb hh hH => m_228 hb hh h628) h632) rfl rfl rfl rfl (am_recv_v ((rg_md (W := B625)).lt (i := 0) (show 0 < 17 by decide)) ((rg_md (W := B625)).at (i := 0) rfl) rfl) (by omega) ?_
  refine x_b 1 (S2 := (1769, [some (.ref am_SB), some (.ref 0), some (.ref 29), some (.ref 46), some (.int x4), some (.int v624), some (.int v630)], [], (mk B631), B631.kc, B631.kn)) rfl ?_
  refine x_ldan rfl rfl rfl ((rg_md (W := B631)).lt (i := 0) (show 0 < 17 by decide)) ?_
  obtain ⟨v634, h633, hr⟩ := bd_some hr
  refine x_cW (RnW.of0 (m_133 (rg_md (W := B631)) h633) ⟨rfl, rfl⟩) rfl rfl rfl rfl (am_recv_v ((rg_md (W := B631)).lt (i := 0) (show 0 < 17 by decide)) ((rg_md (W := B631)).at (i := 0) rfl) rfl) (by omega) ?_
  refine x_b 1 (S2 := (1775, [some (.ref am_SB), some (.ref 0), some (.ref 29), some (.ref 46), some (.int x4), some (.int v624), some (.int v630)], [.int v624, .int v634], (mk B631), B631.kc, B631.kn)) rfl ?_
  rcases ite_some hr with ⟨h635, hr⟩ | ⟨h635, hr⟩
  · refine x_ct rfl rfl (decide_eq_true h635) ?_
    refine x_b 1 (S2 := (1782, [some (.ref am_SB), some (.ref 0), some (.ref 29), some (.ref 46), some (.int x4), some (.int v624), some (.int v630)], [.int v624], (mk B631), B631.kc, B631.kn)) rfl ?_
    rcases ite_some hr with ⟨h636, hr⟩ | ⟨h636, hr⟩
    · refine x_zt rfl rfl (decide_eq_true h636) ?_
      refine x_fg (Lq.s (Lq.s (Lq.s (Lq.s (Lq.s (Lq.n (Lq.n Lq.nil))))))) ?_
      exact j_299_23_j1797 hd hr ka kx kr
    · refine x_zf rfl rfl (decide_eq_false h636) ?_
      refine x_ldan rfl rfl rfl ((rg_out (W := B631)).lt (i := 0) (show 0 < 1 by decide)) ?_
      refine x_b 1 (S2 := (1787, [some (.ref am_SB), some (.ref 0), some (.ref 29), some (.ref 46), some (.int x4), some (.int v624), some (.int v630)], [.int 0, .ref 46], (mk B631), B631.kc, B631.kn)) rfl ?_
      obtain ⟨i637, h638, hr⟩ := bd_some hr
      refine x_lald rfl rfl ((rg_out (W := B631)).lt (i := 0) (show 0 < 1 by decide)) ((rg_out (W := B631)).at (i := 0) rfl) h638 ?_
      refine x_b 3 (S2 := (1792, [some (.ref am_SB), some (.ref 0), some (.ref 29), some (.ref 46), some (.int x4), some (.int v624), some (.int v630)], [.int (lg_cmp (B631.out i637) v630.toInt64)], (mk B631), B631.kc, B631.kn)) rfl ?_
      rcases ite_some hr with ⟨h639, hr⟩ | ⟨h639, hr⟩
      · refine x_zt rfl rfl (decide_eq_true h639) ?_
        refine x_fg (Lq.s (Lq.s (Lq.s (Lq.s (Lq.s (Lq.n (Lq.n Lq.nil))))))) ?_
        exact j_299_23_j1797 hd hr ka kx kr
      · refine x_zf rfl rfl (decide_eq_false h639) ?_
        refine x_b 1 (S2 := (1796, [some (.ref am_SB), some (.ref 0), some (.ref 29), some (.ref 46), some (.int x4), some (.int v624), some (.int v630)], [.int 0], (mk B631), B631.kc, B631.kn)) rfl ?_
        rw [kr _ (Option.some.inj hr).symm]
        exact x_ret rfl rfl (am_ret_z (by decide))
  · refine x_cf rfl rfl (decide_eq_false h635) ?_
    refine x_b 1 (S2 := (1779, [some (.ref am_SB), some (.ref 0), some (.ref 29), some (.ref 46), some (.int x4), some (.int v624), some (.int v630)], [.int 0], (mk B631), B631.kc, B631.kn)) rfl ?_
    rw [kr _ (Option.some.inj hr).symm]
    exact x_ret rfl rfl (am_ret_z (by decide))
def J_299_23_j1800 (L : Nat) (xs : Nat → Int32) (B : Wd) (x4 : Int32) : Option ((Int32 × Wd) ⊕ (Wd) ⊕ (Int32 × Wd)) :=
  (F_110 B).bind fun (v644, B645) =>
  (F_229 B645.md).bind fun (v648, o647) =>
  (some (B645.w_md o647)).bind fun B649 =>
  if v644 = v648 then
    J_299_23_j2564 L xs B649 x4
  else
    some (.inr (.inr (0, B649)))
set_option maxRecDepth 200000 in
theorem j_299_23_j1800 {d : Nat} (hd : 11 ≤ d) {L : Nat} {xs : Nat → Int32} {res : ARe} {B : Wd} {x4 : Int32} {o : (Int32 × Wd) ⊕ (Wd) ⊕ (Int32 × Wd)} (hr : J_299_23_j1800 L xs B x4 = some o) (ka : ∀ s, o = .inl s → Ex d am_M299 (some (L, xs)) (P_299_23 L xs s) res) (kx : ∀ s, o = .inr (.inl s) → Ex d am_M299 (some (L, xs)) (PX_299_23 L xs s) res) (kr : ∀ r, o = .inr (.inr r) → res = (.inl (some (.int r.1)), mk r.2, Wd.kc r.2, Wd.kn r.2)) : Ex d am_M299 (some (L, xs)) (1800, [some (.ref am_SB), some (.ref 0), some (.ref 29), some (.ref 46), some (.int x4), none, none], [], (mk B), B.kc, B.kn) res := by
  delta J_299_23_j1800 at hr
  refine x_ldan rfl rfl rfl ((rg_pp (W := B)).lt (i := 0) (show 0 < 1 by decide)) ?_
  obtain ⟨⟨v644, B645⟩, h643, hr⟩ := bd_some hr
  refine x_cW (m_110 h643) rfl rfl rfl rfl (am_recv_v ((rg_pp (W := B)).lt (i := 0) (show 0 < 1 by decide)) ((rg_pp (W := B)).at (i := 0) rfl) rfl) (by omega) ?_
  refine x_ldan rfl rfl rfl ((rg_md (W := B645)).lt (i := 0) (show 0 < 17 by decide)) ?_
  obtain ⟨⟨v648, o647⟩, h646, hr⟩ := bd_some hr
  obtain ⟨B649, h650, hr⟩ := bd_some hr
  refine x_cW (wc_md (fun H hb hh hH => m_229 hb hh h646) h650) rfl rfl rfl rfl (am_recv_v ((rg_md (W := B645)).lt (i := 0) (show 0 < 17 by decide)) ((rg_md (W := B645)).at (i := 0) rfl) rfl) (by omega) ?_
  rcases ite_some hr with ⟨h651, hr⟩ | ⟨h651, hr⟩
  · refine x_ct rfl rfl (decide_eq_true h651) ?_
    refine x_fg (Lq.s (Lq.s (Lq.s (Lq.s (Lq.s (Lq.s (Lq.s Lq.nil))))))) ?_
    exact j_299_23_j2564 hd hr ka kx kr
  · refine x_cf rfl rfl (decide_eq_false h651) ?_
    refine x_b 1 (S2 := (1812, [some (.ref am_SB), some (.ref 0), some (.ref 29), some (.ref 46), some (.int x4), none, none], [.int 0], (mk B649), B649.kc, B649.kn)) rfl ?_
    rw [kr _ (Option.some.inj hr).symm]
    exact x_ret rfl rfl (am_ret_z (by decide))
def J_299_23_j1878 (L : Nat) (xs : Nat → Int32) (B : Wd) (x4 : Int32) : Option ((Int32 × Wd) ⊕ (Wd) ⊕ (Int32 × Wd)) :=
  J_299_23_j2564 L xs B x4
set_option maxRecDepth 200000 in
theorem j_299_23_j1878 {d : Nat} (hd : 11 ≤ d) {L : Nat} {xs : Nat → Int32} {res : ARe} {B : Wd} {x4 : Int32} {o : (Int32 × Wd) ⊕ (Wd) ⊕ (Int32 × Wd)} (hr : J_299_23_j1878 L xs B x4 = some o) (ka : ∀ s, o = .inl s → Ex d am_M299 (some (L, xs)) (P_299_23 L xs s) res) (kx : ∀ s, o = .inr (.inl s) → Ex d am_M299 (some (L, xs)) (PX_299_23 L xs s) res) (kr : ∀ r, o = .inr (.inr r) → res = (.inl (some (.int r.1)), mk r.2, Wd.kc r.2, Wd.kn r.2)) : Ex d am_M299 (some (L, xs)) (1878, [some (.ref am_SB), some (.ref 0), some (.ref 29), some (.ref 46), some (.int x4), none, none], [], (mk B), B.kc, B.kn) res := by
  delta J_299_23_j1878 at hr
  refine x_b 1 (S2 := (2564, [some (.ref am_SB), some (.ref 0), some (.ref 29), some (.ref 46), some (.int x4), none, none], [], (mk B), B.kc, B.kn)) rfl ?_
  refine x_fg (Lq.s (Lq.s (Lq.s (Lq.s (Lq.s (Lq.s (Lq.s Lq.nil))))))) ?_
  exact j_299_23_j2564 hd hr ka kx kr
def J_299_23_j1813 (L : Nat) (xs : Nat → Int32) (B : Wd) (x4 : Int32) : Option ((Int32 × Wd) ⊕ (Wd) ⊕ (Int32 × Wd)) :=
  (ix (x4 + 1) L).bind fun i654 =>
  (ix (x4 + 2) L).bind fun i656 =>
  (F_287 B (xs i654) (xs i656)).bind fun (v659, B660) =>
  (ix (x4 + 1) L).bind fun i661 =>
  (ix (x4 + 2) L).bind fun i663 =>
  (F_231 B660.md (xs i661) (xs i663)).bind fun (v667, o666) =>
  (some (B660.w_md o666)).bind fun B668 =>
  (F_133 B668.md).bind fun v671 =>
  if v671 = v659 then
    if ¬ v659 = 0 then
      J_299_23_j1878 L xs B668 x4
    else
      (ix 0 1).bind fun i674 =>
      if (lg_cmp (B668.out i674) v667.toInt64) = 0 then
        J_299_23_j1878 L xs B668 x4
      else
        some (.inr (.inr (0, B668)))
  else
    some (.inr (.inr (0, B668)))
set_option maxRecDepth 200000 in
theorem j_299_23_j1813 {d : Nat} (hd : 11 ≤ d) {L : Nat} {xs : Nat → Int32} {res : ARe} {B : Wd} {x4 : Int32} {o : (Int32 × Wd) ⊕ (Wd) ⊕ (Int32 × Wd)} (hr : J_299_23_j1813 L xs B x4 = some o) (ka : ∀ s, o = .inl s → Ex d am_M299 (some (L, xs)) (P_299_23 L xs s) res) (kx : ∀ s, o = .inr (.inl s) → Ex d am_M299 (some (L, xs)) (PX_299_23 L xs s) res) (kr : ∀ r, o = .inr (.inr r) → res = (.inl (some (.int r.1)), mk r.2, Wd.kc r.2, Wd.kn r.2)) : Ex d am_M299 (some (L, xs)) (1813, [some (.ref am_SB), some (.ref 0), some (.ref 29), some (.ref 46), some (.int x4), none, none], [], (mk B), B.kc, B.kn) res := by
  delta J_299_23_j1813 at hr
  refine x_ldan rfl rfl rfl ((rg_pp (W := B)).lt (i := 0) (show 0 < 1 by decide)) ?_
  refine x_ldsn rfl rfl rfl ?_
  refine x_b 3 (S2 := (1819, [some (.ref am_SB), some (.ref 0), some (.ref 29), some (.ref 46), some (.int x4), none, none], [.int (x4 + 1), .ref am_SB, .ref 0], (mk B), B.kc, B.kn)) rfl ?_
  obtain ⟨i654, h655, hr⟩ := bd_some hr
  refine x_sld rfl rfl h655 ?_
  refine x_ldsn rfl rfl rfl ?_
  refine x_b 3 (S2 := (1825, [some (.ref am_SB), some (.ref 0), some (.ref 29), some (.ref 46), some (.int x4), none, none], [.int (x4 + 2), .ref am_SB, .int (xs i654), .ref 0], (mk B), B.kc, B.kn)) rfl ?_
  obtain ⟨i656, h657, hr⟩ := bd_some hr
  refine x_sld rfl rfl h657 ?_
  refine x_ldan rfl rfl rfl ((rg_out (W := B)).lt (i := 0) (show 0 < 1 by decide)) ?_
  obtain ⟨⟨v659, B660⟩, h658, hr⟩ := bd_some hr
  refine x_cW (m_287 h658) rfl rfl rfl rfl rfl (by omega) ?_
  refine x_b 1 (S2 := (1832, [some (.ref am_SB), some (.ref 0), some (.ref 29), some (.ref 46), some (.int x4), some (.int v659), none], [], (mk B660), B660.kc, B660.kn)) rfl ?_
  refine x_ldan rfl rfl rfl ((rg_md (W := B660)).lt (i := 0) (show 0 < 17 by decide)) ?_
  refine x_ldsn rfl rfl rfl ?_
  refine x_b 3 (S2 := (1838, [some (.ref am_SB), some (.ref 0), some (.ref 29), some (.ref 46), some (.int x4), some (.int v659), none], [.int (x4 + 1), .ref am_SB, .ref 29], (mk B660), B660.kc, B660.kn)) rfl ?_
  obtain ⟨i661, h662, hr⟩ := bd_some hr
  refine x_sld rfl rfl h662 ?_
  refine x_ldsn rfl rfl rfl ?_
  refine x_b 3 (S2 := (1844, [some (.ref am_SB), some (.ref 0), some (.ref 29), some (.ref 46), some (.int x4), some (.int v659), none], [.int (x4 + 2), .ref am_SB, .int (xs i661), .ref 29], (mk B660), B660.kc, B660.kn)) rfl ?_
  obtain ⟨i663, h664, hr⟩ := bd_some hr
  refine x_sld rfl rfl h664 ?_
  obtain ⟨⟨v667, o666⟩, h665, hr⟩ := bd_some hr
  obtain ⟨B668, h669, hr⟩ := bd_some hr
  refine x_cW (wc_md (fun H hb hh hH => m_231 hb hh h665) h669) rfl rfl rfl rfl (am_recv_v ((rg_md (W := B660)).lt (i := 0) (show 0 < 17 by decide)) ((rg_md (W := B660)).at (i := 0) rfl) rfl) (by omega) ?_
  refine x_b 1 (S2 := (1850, [some (.ref am_SB), some (.ref 0), some (.ref 29), some (.ref 46), some (.int x4), some (.int v659), some (.int v667)], [], (mk B668), B668.kc, B668.kn)) rfl ?_
  refine x_ldan rfl rfl rfl ((rg_md (W := B668)).lt (i := 0) (show 0 < 17 by decide)) ?_
  obtain ⟨v671, h670, hr⟩ := bd_some hr
  refine x_cW (RnW.of0 (m_133 (rg_md (W := B668)) h670) ⟨rfl, rfl⟩) rfl rfl rfl rfl (am_recv_v ((rg_md (W := B668)).lt (i := 0) (show 0 < 17 by decide)) ((rg_md (W := B668)).at (i := 0) rfl) rfl) (by omega) ?_
  refine x_b 1 (S2 := (1856, [some (.ref am_SB), some (.ref 0), some (.ref 29), some (.ref 46), some (.int x4), some (.int v659), some (.int v667)], [.int v659, .int v671], (mk B668), B668.kc, B668.kn)) rfl ?_
  rcases ite_some hr with ⟨h672, hr⟩ | ⟨h672, hr⟩
  · refine x_ct rfl rfl (decide_eq_true h672) ?_
    refine x_b 1 (S2 := (1863, [some (.ref am_SB), some (.ref 0), some (.ref 29), some (.ref 46), some (.int x4), some (.int v659), some (.int v667)], [.int v659], (mk B668), B668.kc, B668.kn)) rfl ?_
    rcases ite_some hr with ⟨h673, hr⟩ | ⟨h673, hr⟩
    · refine x_zt rfl rfl (decide_eq_true h673) ?_
      refine x_fg (Lq.s (Lq.s (Lq.s (Lq.s (Lq.s (Lq.n (Lq.n Lq.nil))))))) ?_
      exact j_299_23_j1878 hd hr ka kx kr
    · refine x_zf rfl rfl (decide_eq_false h673) ?_
      refine x_ldan rfl rfl rfl ((rg_out (W := B668)).lt (i := 0) (show 0 < 1 by decide)) ?_
      refine x_b 1 (S2 := (1868, [some (.ref am_SB), some (.ref 0), some (.ref 29), some (.ref 46), some (.int x4), some (.int v659), some (.int v667)], [.int 0, .ref 46], (mk B668), B668.kc, B668.kn)) rfl ?_
      obtain ⟨i674, h675, hr⟩ := bd_some hr
      refine x_lald rfl rfl ((rg_out (W := B668)).lt (i := 0) (show 0 < 1 by decide)) ((rg_out (W := B668)).at (i := 0) rfl) h675 ?_
      refine x_b 3 (S2 := (1873, [some (.ref am_SB), some (.ref 0), some (.ref 29), some (.ref 46), some (.int x4), some (.int v659), some (.int v667)], [.int (lg_cmp (B668.out i674) v667.toInt64)], (mk B668), B668.kc, B668.kn)) rfl ?_
      rcases ite_some hr with ⟨h676, hr⟩ | ⟨h676, hr⟩
      · refine x_zt rfl rfl (decide_eq_true h676) ?_
        refine x_fg (Lq.s (Lq.s (Lq.s (Lq.s (Lq.s (Lq.n (Lq.n Lq.nil))))))) ?_
        exact j_299_23_j1878 hd hr ka kx kr
      · refine x_zf rfl rfl (decide_eq_false h676) ?_
        refine x_b 1 (S2 := (1877, [some (.ref am_SB), some (.ref 0), some (.ref 29), some (.ref 46), some (.int x4), some (.int v659), some (.int v667)], [.int 0], (mk B668), B668.kc, B668.kn)) rfl ?_
        rw [kr _ (Option.some.inj hr).symm]
        exact x_ret rfl rfl (am_ret_z (by decide))
  · refine x_cf rfl rfl (decide_eq_false h672) ?_
    refine x_b 1 (S2 := (1860, [some (.ref am_SB), some (.ref 0), some (.ref 29), some (.ref 46), some (.int x4), some (.int v659), some (.int v667)], [.int 0], (mk B668), B668.kc, B668.kn)) rfl ?_
    rw [kr _ (Option.some.inj hr).symm]
    exact x_ret rfl rfl (am_ret_z (by decide))
def J_299_23_j1934 (L : Nat) (xs : Nat → Int32) (B : Wd) (x4 : Int32) : Option ((Int32 × Wd) ⊕ (Wd) ⊕ (Int32 × Wd)) :=
  J_299_23_j2564 L xs B x4
set_option maxRecDepth 200000 in
theorem j_299_23_j1934 {d : Nat} (hd : 11 ≤ d) {L : Nat} {xs : Nat → Int32} {res : ARe} {B : Wd} {x4 : Int32} {o : (Int32 × Wd) ⊕ (Wd) ⊕ (Int32 × Wd)} (hr : J_299_23_j1934 L xs B x4 = some o) (ka : ∀ s, o = .inl s → Ex d am_M299 (some (L, xs)) (P_299_23 L xs s) res) (kx : ∀ s, o = .inr (.inl s) → Ex d am_M299 (some (L, xs)) (PX_299_23 L xs s) res) (kr : ∀ r, o = .inr (.inr r) → res = (.inl (some (.int r.1)), mk r.2, Wd.kc r.2, Wd.kn r.2)) : Ex d am_M299 (some (L, xs)) (1934, [some (.ref am_SB), some (.ref 0), some (.ref 29), some (.ref 46), some (.int x4), none, none], [], (mk B), B.kc, B.kn) res := by
  delta J_299_23_j1934 at hr
  refine x_b 1 (S2 := (2564, [some (.ref am_SB), some (.ref 0), some (.ref 29), some (.ref 46), some (.int x4), none, none], [], (mk B), B.kc, B.kn)) rfl ?_
  refine x_fg (Lq.s (Lq.s (Lq.s (Lq.s (Lq.s (Lq.s (Lq.s Lq.nil))))))) ?_
  exact j_299_23_j2564 hd hr ka kx kr
def J_299_23_j1881 (L : Nat) (xs : Nat → Int32) (B : Wd) (x4 : Int32) : Option ((Int32 × Wd) ⊕ (Wd) ⊕ (Int32 × Wd)) :=
  (ix (x4 + 1) L).bind fun i680 =>
  (F_288 B (xs i680)).bind fun (v683, B684) =>
  (ix (x4 + 1) L).bind fun i685 =>
  (F_233 B684.md (xs i685)).bind fun (v689, o688) =>
  (some (B684.w_md o688)).bind fun B690 =>
  (F_133 B690.md).bind fun v693 =>
  if v693 = v683 then
    if ¬ v683 = 0 then
      J_299_23_j1934 L xs B690 x4
    else
      (ix 0 1).bind fun i696 =>
      if (lg_cmp (B690.out i696) v689.toInt64) = 0 then
        J_299_23_j1934 L xs B690 x4
      else
        some (.inr (.inr (0, B690)))
  else
    some (.inr (.inr (0, B690)))
set_option maxRecDepth 200000 in
theorem j_299_23_j1881 {d : Nat} (hd : 11 ≤ d) {L : Nat} {xs : Nat → Int32} {res : ARe} {B : Wd} {x4 : Int32} {o : (Int32 × Wd) ⊕ (Wd) ⊕ (Int32 × Wd)} (hr : J_299_23_j1881 L xs B x4 = some o) (ka : ∀ s, o = .inl s → Ex d am_M299 (some (L, xs)) (P_299_23 L xs s) res) (kx : ∀ s, o = .inr (.inl s) → Ex d am_M299 (some (L, xs)) (PX_299_23 L xs s) res) (kr : ∀ r, o = .inr (.inr r) → res = (.inl (some (.int r.1)), mk r.2, Wd.kc r.2, Wd.kn r.2)) : Ex d am_M299 (some (L, xs)) (1881, [some (.ref am_SB), some (.ref 0), some (.ref 29), some (.ref 46), some (.int x4), none, none], [], (mk B), B.kc, B.kn) res := by
  delta J_299_23_j1881 at hr
  refine x_ldan rfl rfl rfl ((rg_pp (W := B)).lt (i := 0) (show 0 < 1 by decide)) ?_
  refine x_ldsn rfl rfl rfl ?_
  refine x_b 3 (S2 := (1887, [some (.ref am_SB), some (.ref 0), some (.ref 29), some (.ref 46), some (.int x4), none, none], [.int (x4 + 1), .ref am_SB, .ref 0], (mk B), B.kc, B.kn)) rfl ?_
  obtain ⟨i680, h681, hr⟩ := bd_some hr
  refine x_sld rfl rfl h681 ?_
  refine x_ldan rfl rfl rfl ((rg_out (W := B)).lt (i := 0) (show 0 < 1 by decide)) ?_
  obtain ⟨⟨v683, B684⟩, h682, hr⟩ := bd_some hr
  refine x_cW (m_288 h682) rfl rfl rfl rfl rfl (by omega) ?_
  refine x_b 1 (S2 := (1894, [some (.ref am_SB), some (.ref 0), some (.ref 29), some (.ref 46), some (.int x4), some (.int v683), none], [], (mk B684), B684.kc, B684.kn)) rfl ?_
  refine x_ldan rfl rfl rfl ((rg_md (W := B684)).lt (i := 0) (show 0 < 17 by decide)) ?_
  refine x_ldsn rfl rfl rfl ?_
  refine x_b 3 (S2 := (1900, [some (.ref am_SB), some (.ref 0), some (.ref 29), some (.ref 46), some (.int x4), some (.int v683), none], [.int (x4 + 1), .ref am_SB, .ref 29], (mk B684), B684.kc, B684.kn)) rfl ?_
  obtain ⟨i685, h686, hr⟩ := bd_some hr
  refine x_sld rfl rfl h686 ?_
  obtain ⟨⟨v689, o688⟩, h687, hr⟩ := bd_some hr
  obtain ⟨B690, h691, hr⟩ := bd_some hr
  refine x_cW (wc_md (fun H hb hh hH => m_233 hb hh h687) h691) rfl rfl rfl rfl (am_recv_v ((rg_md (W := B684)).lt (i := 0) (show 0 < 17 by decide)) ((rg_md (W := B684)).at (i := 0) rfl) rfl) (by omega) ?_
  refine x_b 1 (S2 := (1906, [some (.ref am_SB), some (.ref 0), some (.ref 29), some (.ref 46), some (.int x4), some (.int v683), some (.int v689)], [], (mk B690), B690.kc, B690.kn)) rfl ?_
  refine x_ldan rfl rfl rfl ((rg_md (W := B690)).lt (i := 0) (show 0 < 17 by decide)) ?_
  obtain ⟨v693, h692, hr⟩ := bd_some hr
  refine x_cW (RnW.of0 (m_133 (rg_md (W := B690)) h692) ⟨rfl, rfl⟩) rfl rfl rfl rfl (am_recv_v ((rg_md (W := B690)).lt (i := 0) (show 0 < 17 by decide)) ((rg_md (W := B690)).at (i := 0) rfl) rfl) (by omega) ?_
  refine x_b 1 (S2 := (1912, [some (.ref am_SB), some (.ref 0), some (.ref 29), some (.ref 46), some (.int x4), some (.int v683), some (.int v689)], [.int v683, .int v693], (mk B690), B690.kc, B690.kn)) rfl ?_
  rcases ite_some hr with ⟨h694, hr⟩ | ⟨h694, hr⟩
  · refine x_ct rfl rfl (decide_eq_true h694) ?_
    refine x_b 1 (S2 := (1919, [some (.ref am_SB), some (.ref 0), some (.ref 29), some (.ref 46), some (.int x4), some (.int v683), some (.int v689)], [.int v683], (mk B690), B690.kc, B690.kn)) rfl ?_
    rcases ite_some hr with ⟨h695, hr⟩ | ⟨h695, hr⟩
    · refine x_zt rfl rfl (decide_eq_true h695) ?_
      refine x_fg (Lq.s (Lq.s (Lq.s (Lq.s (Lq.s (Lq.n (Lq.n Lq.nil))))))) ?_
      exact j_299_23_j1934 hd hr ka kx kr
    · refine x_zf rfl rfl (decide_eq_false h695) ?_
      refine x_ldan rfl rfl rfl ((rg_out (W := B690)).lt (i := 0) (show 0 < 1 by decide)) ?_
      refine x_b 1 (S2 := (1924, [some (.ref am_SB), some (.ref 0), some (.ref 29), some (.ref 46), some (.int x4), some (.int v683), some (.int v689)], [.int 0, .ref 46], (mk B690), B690.kc, B690.kn)) rfl ?_
      obtain ⟨i696, h697, hr⟩ := bd_some hr
      refine x_lald rfl rfl ((rg_out (W := B690)).lt (i := 0) (show 0 < 1 by decide)) ((rg_out (W := B690)).at (i := 0) rfl) h697 ?_
      refine x_b 3 (S2 := (1929, [some (.ref am_SB), some (.ref 0), some (.ref 29), some (.ref 46), some (.int x4), some (.int v683), some (.int v689)], [.int (lg_cmp (B690.out i696) v689.toInt64)], (mk B690), B690.kc, B690.kn)) rfl ?_
      rcases ite_some hr with ⟨h698, hr⟩ | ⟨h698, hr⟩
      · refine x_zt rfl rfl (decide_eq_true h698) ?_
        refine x_fg (Lq.s (Lq.s (Lq.s (Lq.s (Lq.s (Lq.n (Lq.n Lq.nil))))))) ?_
        exact j_299_23_j1934 hd hr ka kx kr
      · refine x_zf rfl rfl (decide_eq_false h698) ?_
        refine x_b 1 (S2 := (1933, [some (.ref am_SB), some (.ref 0), some (.ref 29), some (.ref 46), some (.int x4), some (.int v683), some (.int v689)], [.int 0], (mk B690), B690.kc, B690.kn)) rfl ?_
        rw [kr _ (Option.some.inj hr).symm]
        exact x_ret rfl rfl (am_ret_z (by decide))
  · refine x_cf rfl rfl (decide_eq_false h694) ?_
    refine x_b 1 (S2 := (1916, [some (.ref am_SB), some (.ref 0), some (.ref 29), some (.ref 46), some (.int x4), some (.int v683), some (.int v689)], [.int 0], (mk B690), B690.kc, B690.kn)) rfl ?_
    rw [kr _ (Option.some.inj hr).symm]
    exact x_ret rfl rfl (am_ret_z (by decide))
def J_299_23_j2002 (L : Nat) (xs : Nat → Int32) (B : Wd) (x4 : Int32) : Option ((Int32 × Wd) ⊕ (Wd) ⊕ (Int32 × Wd)) :=
  J_299_23_j2564 L xs B x4
set_option maxRecDepth 200000 in
theorem j_299_23_j2002 {d : Nat} (hd : 11 ≤ d) {L : Nat} {xs : Nat → Int32} {res : ARe} {B : Wd} {x4 : Int32} {o : (Int32 × Wd) ⊕ (Wd) ⊕ (Int32 × Wd)} (hr : J_299_23_j2002 L xs B x4 = some o) (ka : ∀ s, o = .inl s → Ex d am_M299 (some (L, xs)) (P_299_23 L xs s) res) (kx : ∀ s, o = .inr (.inl s) → Ex d am_M299 (some (L, xs)) (PX_299_23 L xs s) res) (kr : ∀ r, o = .inr (.inr r) → res = (.inl (some (.int r.1)), mk r.2, Wd.kc r.2, Wd.kn r.2)) : Ex d am_M299 (some (L, xs)) (2002, [some (.ref am_SB), some (.ref 0), some (.ref 29), some (.ref 46), some (.int x4), none, none], [], (mk B), B.kc, B.kn) res := by
  delta J_299_23_j2002 at hr
  refine x_b 1 (S2 := (2564, [some (.ref am_SB), some (.ref 0), some (.ref 29), some (.ref 46), some (.int x4), none, none], [], (mk B), B.kc, B.kn)) rfl ?_
  refine x_fg (Lq.s (Lq.s (Lq.s (Lq.s (Lq.s (Lq.s (Lq.s Lq.nil))))))) ?_
  exact j_299_23_j2564 hd hr ka kx kr
def J_299_23_j1937 (L : Nat) (xs : Nat → Int32) (B : Wd) (x4 : Int32) : Option ((Int32 × Wd) ⊕ (Wd) ⊕ (Int32 × Wd)) :=
  (ix (x4 + 1) L).bind fun i702 =>
  (ix (x4 + 2) L).bind fun i704 =>
  (F_289 B (xs i702) (xs i704)).bind fun (v707, B708) =>
  (ix (x4 + 1) L).bind fun i709 =>
  (ix (x4 + 2) L).bind fun i711 =>
  (F_234 B708.md (xs i709) (xs i711)).bind fun (v715, o714) =>
  (some (B708.w_md o714)).bind fun B716 =>
  (F_133 B716.md).bind fun v719 =>
  if v719 = v707 then
    if ¬ v707 = 0 then
      J_299_23_j2002 L xs B716 x4
    else
      (ix 0 1).bind fun i722 =>
      if (lg_cmp (B716.out i722) v715.toInt64) = 0 then
        J_299_23_j2002 L xs B716 x4
      else
        some (.inr (.inr (0, B716)))
  else
    some (.inr (.inr (0, B716)))
set_option maxRecDepth 200000 in
theorem j_299_23_j1937 {d : Nat} (hd : 11 ≤ d) {L : Nat} {xs : Nat → Int32} {res : ARe} {B : Wd} {x4 : Int32} {o : (Int32 × Wd) ⊕ (Wd) ⊕ (Int32 × Wd)} (hr : J_299_23_j1937 L xs B x4 = some o) (ka : ∀ s, o = .inl s → Ex d am_M299 (some (L, xs)) (P_299_23 L xs s) res) (kx : ∀ s, o = .inr (.inl s) → Ex d am_M299 (some (L, xs)) (PX_299_23 L xs s) res) (kr : ∀ r, o = .inr (.inr r) → res = (.inl (some (.int r.1)), mk r.2, Wd.kc r.2, Wd.kn r.2)) : Ex d am_M299 (some (L, xs)) (1937, [some (.ref am_SB), some (.ref 0), some (.ref 29), some (.ref 46), some (.int x4), none, none], [], (mk B), B.kc, B.kn) res := by
  delta J_299_23_j1937 at hr
  refine x_ldan rfl rfl rfl ((rg_pp (W := B)).lt (i := 0) (show 0 < 1 by decide)) ?_
  refine x_ldsn rfl rfl rfl ?_
  refine x_b 3 (S2 := (1943, [some (.ref am_SB), some (.ref 0), some (.ref 29), some (.ref 46), some (.int x4), none, none], [.int (x4 + 1), .ref am_SB, .ref 0], (mk B), B.kc, B.kn)) rfl ?_
  obtain ⟨i702, h703, hr⟩ := bd_some hr
  refine x_sld rfl rfl h703 ?_
  refine x_ldsn rfl rfl rfl ?_
  refine x_b 3 (S2 := (1949, [some (.ref am_SB), some (.ref 0), some (.ref 29), some (.ref 46), some (.int x4), none, none], [.int (x4 + 2), .ref am_SB, .int (xs i702), .ref 0], (mk B), B.kc, B.kn)) rfl ?_
  obtain ⟨i704, h705, hr⟩ := bd_some hr
  refine x_sld rfl rfl h705 ?_
  refine x_ldan rfl rfl rfl ((rg_out (W := B)).lt (i := 0) (show 0 < 1 by decide)) ?_
  obtain ⟨⟨v707, B708⟩, h706, hr⟩ := bd_some hr
  refine x_cW (m_289 h706) rfl rfl rfl rfl rfl (by omega) ?_
  refine x_b 1 (S2 := (1956, [some (.ref am_SB), some (.ref 0), some (.ref 29), some (.ref 46), some (.int x4), some (.int v707), none], [], (mk B708), B708.kc, B708.kn)) rfl ?_
  refine x_ldan rfl rfl rfl ((rg_md (W := B708)).lt (i := 0) (show 0 < 17 by decide)) ?_
  refine x_ldsn rfl rfl rfl ?_
  refine x_b 3 (S2 := (1962, [some (.ref am_SB), some (.ref 0), some (.ref 29), some (.ref 46), some (.int x4), some (.int v707), none], [.int (x4 + 1), .ref am_SB, .ref 29], (mk B708), B708.kc, B708.kn)) rfl ?_
  obtain ⟨i709, h710, hr⟩ := bd_some hr
  refine x_sld rfl rfl h710 ?_
  refine x_ldsn rfl rfl rfl ?_
  refine x_b 3 (S2 := (1968, [some (.ref am_SB), some (.ref 0), some (.ref 29), some (.ref 46), some (.int x4), some (.int v707), none], [.int (x4 + 2), .ref am_SB, .int (xs i709), .ref 29], (mk B708), B708.kc, B708.kn)) rfl ?_
  obtain ⟨i711, h712, hr⟩ := bd_some hr
  refine x_sld rfl rfl h712 ?_
  obtain ⟨⟨v715, o714⟩, h713, hr⟩ := bd_some hr
  obtain ⟨B716, h717, hr⟩ := bd_some hr
  refine x_cW (wc_md (fun H hb hh hH => m_234 hb hh h713) h717) rfl rfl rfl rfl (am_recv_v ((rg_md (W := B708)).lt (i := 0) (show 0 < 17 by decide)) ((rg_md (W := B708)).at (i := 0) rfl) rfl) (by omega) ?_
  refine x_b 1 (S2 := (1974, [some (.ref am_SB), some (.ref 0), some (.ref 29), some (.ref 46), some (.int x4), some (.int v707), some (.int v715)], [], (mk B716), B716.kc, B716.kn)) rfl ?_
  refine x_ldan rfl rfl rfl ((rg_md (W := B716)).lt (i := 0) (show 0 < 17 by decide)) ?_
  obtain ⟨v719, h718, hr⟩ := bd_some hr
  refine x_cW (RnW.of0 (m_133 (rg_md (W := B716)) h718) ⟨rfl, rfl⟩) rfl rfl rfl rfl (am_recv_v ((rg_md (W := B716)).lt (i := 0) (show 0 < 17 by decide)) ((rg_md (W := B716)).at (i := 0) rfl) rfl) (by omega) ?_
  refine x_b 1 (S2 := (1980, [some (.ref am_SB), some (.ref 0), some (.ref 29), some (.ref 46), some (.int x4), some (.int v707), some (.int v715)], [.int v707, .int v719], (mk B716), B716.kc, B716.kn)) rfl ?_
  rcases ite_some hr with ⟨h720, hr⟩ | ⟨h720, hr⟩
  · refine x_ct rfl rfl (decide_eq_true h720) ?_
    refine x_b 1 (S2 := (1987, [some (.ref am_SB), some (.ref 0), some (.ref 29), some (.ref 46), some (.int x4), some (.int v707), some (.int v715)], [.int v707], (mk B716), B716.kc, B716.kn)) rfl ?_
    rcases ite_some hr with ⟨h721, hr⟩ | ⟨h721, hr⟩
    · refine x_zt rfl rfl (decide_eq_true h721) ?_
      refine x_fg (Lq.s (Lq.s (Lq.s (Lq.s (Lq.s (Lq.n (Lq.n Lq.nil))))))) ?_
      exact j_299_23_j2002 hd hr ka kx kr
    · refine x_zf rfl rfl (decide_eq_false h721) ?_
      refine x_ldan rfl rfl rfl ((rg_out (W := B716)).lt (i := 0) (show 0 < 1 by decide)) ?_
      refine x_b 1 (S2 := (1992, [some (.ref am_SB), some (.ref 0), some (.ref 29), some (.ref 46), some (.int x4), some (.int v707), some (.int v715)], [.int 0, .ref 46], (mk B716), B716.kc, B716.kn)) rfl ?_
      obtain ⟨i722, h723, hr⟩ := bd_some hr
      refine x_lald rfl rfl ((rg_out (W := B716)).lt (i := 0) (show 0 < 1 by decide)) ((rg_out (W := B716)).at (i := 0) rfl) h723 ?_
      refine x_b 3 (S2 := (1997, [some (.ref am_SB), some (.ref 0), some (.ref 29), some (.ref 46), some (.int x4), some (.int v707), some (.int v715)], [.int (lg_cmp (B716.out i722) v715.toInt64)], (mk B716), B716.kc, B716.kn)) rfl ?_
      rcases ite_some hr with ⟨h724, hr⟩ | ⟨h724, hr⟩
      · refine x_zt rfl rfl (decide_eq_true h724) ?_
        refine x_fg (Lq.s (Lq.s (Lq.s (Lq.s (Lq.s (Lq.n (Lq.n Lq.nil))))))) ?_
        exact j_299_23_j2002 hd hr ka kx kr
      · refine x_zf rfl rfl (decide_eq_false h724) ?_
        refine x_b 1 (S2 := (2001, [some (.ref am_SB), some (.ref 0), some (.ref 29), some (.ref 46), some (.int x4), some (.int v707), some (.int v715)], [.int 0], (mk B716), B716.kc, B716.kn)) rfl ?_
        rw [kr _ (Option.some.inj hr).symm]
        exact x_ret rfl rfl (am_ret_z (by decide))
  · refine x_cf rfl rfl (decide_eq_false h720) ?_
    refine x_b 1 (S2 := (1984, [some (.ref am_SB), some (.ref 0), some (.ref 29), some (.ref 46), some (.int x4), some (.int v707), some (.int v715)], [.int 0], (mk B716), B716.kc, B716.kn)) rfl ?_
    rw [kr _ (Option.some.inj hr).symm]
    exact x_ret rfl rfl (am_ret_z (by decide))
def J_299_23_j2058 (L : Nat) (xs : Nat → Int32) (B : Wd) (x4 : Int32) : Option ((Int32 × Wd) ⊕ (Wd) ⊕ (Int32 × Wd)) :=
  J_299_23_j2564 L xs B x4
set_option maxRecDepth 200000 in
theorem j_299_23_j2058 {d : Nat} (hd : 11 ≤ d) {L : Nat} {xs : Nat → Int32} {res : ARe} {B : Wd} {x4 : Int32} {o : (Int32 × Wd) ⊕ (Wd) ⊕ (Int32 × Wd)} (hr : J_299_23_j2058 L xs B x4 = some o) (ka : ∀ s, o = .inl s → Ex d am_M299 (some (L, xs)) (P_299_23 L xs s) res) (kx : ∀ s, o = .inr (.inl s) → Ex d am_M299 (some (L, xs)) (PX_299_23 L xs s) res) (kr : ∀ r, o = .inr (.inr r) → res = (.inl (some (.int r.1)), mk r.2, Wd.kc r.2, Wd.kn r.2)) : Ex d am_M299 (some (L, xs)) (2058, [some (.ref am_SB), some (.ref 0), some (.ref 29), some (.ref 46), some (.int x4), none, none], [], (mk B), B.kc, B.kn) res := by
  delta J_299_23_j2058 at hr
  refine x_b 1 (S2 := (2564, [some (.ref am_SB), some (.ref 0), some (.ref 29), some (.ref 46), some (.int x4), none, none], [], (mk B), B.kc, B.kn)) rfl ?_
  refine x_fg (Lq.s (Lq.s (Lq.s (Lq.s (Lq.s (Lq.s (Lq.s Lq.nil))))))) ?_
  exact j_299_23_j2564 hd hr ka kx kr
def J_299_23_j2005 (L : Nat) (xs : Nat → Int32) (B : Wd) (x4 : Int32) : Option ((Int32 × Wd) ⊕ (Wd) ⊕ (Int32 × Wd)) :=
  (ix (x4 + 1) L).bind fun i728 =>
  (F_290 B (xs i728)).bind fun (v731, B732) =>
  (ix (x4 + 1) L).bind fun i733 =>
  (F_238 B732.md (xs i733)).bind fun (v737, o736) =>
  (some (B732.w_md o736)).bind fun B738 =>
  (F_133 B738.md).bind fun v741 =>
  if v741 = v731 then
    if ¬ v731 = 0 then
      J_299_23_j2058 L xs B738 x4
    else
      (ix 0 1).bind fun i744 =>
      if (lg_cmp (B738.out i744) v737.toInt64) = 0 then
        J_299_23_j2058 L xs B738 x4
      else
        some (.inr (.inr (0, B738)))
  else
    some (.inr (.inr (0, B738)))
set_option maxRecDepth 200000 in
theorem j_299_23_j2005 {d : Nat} (hd : 11 ≤ d) {L : Nat} {xs : Nat → Int32} {res : ARe} {B : Wd} {x4 : Int32} {o : (Int32 × Wd) ⊕ (Wd) ⊕ (Int32 × Wd)} (hr : J_299_23_j2005 L xs B x4 = some o) (ka : ∀ s, o = .inl s → Ex d am_M299 (some (L, xs)) (P_299_23 L xs s) res) (kx : ∀ s, o = .inr (.inl s) → Ex d am_M299 (some (L, xs)) (PX_299_23 L xs s) res) (kr : ∀ r, o = .inr (.inr r) → res = (.inl (some (.int r.1)), mk r.2, Wd.kc r.2, Wd.kn r.2)) : Ex d am_M299 (some (L, xs)) (2005, [some (.ref am_SB), some (.ref 0), some (.ref 29), some (.ref 46), some (.int x4), none, none], [], (mk B), B.kc, B.kn) res := by
  delta J_299_23_j2005 at hr
  refine x_ldan rfl rfl rfl ((rg_pp (W := B)).lt (i := 0) (show 0 < 1 by decide)) ?_
  refine x_ldsn rfl rfl rfl ?_
  refine x_b 3 (S2 := (2011, [some (.ref am_SB), some (.ref 0), some (.ref 29), some (.ref 46), some (.int x4), none, none], [.int (x4 + 1), .ref am_SB, .ref 0], (mk B), B.kc, B.kn)) rfl ?_
  obtain ⟨i728, h729, hr⟩ := bd_some hr
  refine x_sld rfl rfl h729 ?_
  refine x_ldan rfl rfl rfl ((rg_out (W := B)).lt (i := 0) (show 0 < 1 by decide)) ?_
  obtain ⟨⟨v731, B732⟩, h730, hr⟩ := bd_some hr
  refine x_cW (m_290 h730) rfl rfl rfl rfl rfl (by omega) ?_
  refine x_b 1 (S2 := (2018, [some (.ref am_SB), some (.ref 0), some (.ref 29), some (.ref 46), some (.int x4), some (.int v731), none], [], (mk B732), B732.kc, B732.kn)) rfl ?_
  refine x_ldan rfl rfl rfl ((rg_md (W := B732)).lt (i := 0) (show 0 < 17 by decide)) ?_
  refine x_ldsn rfl rfl rfl ?_
  refine x_b 3 (S2 := (2024, [some (.ref am_SB), some (.ref 0), some (.ref 29), some (.ref 46), some (.int x4), some (.int v731), none], [.int (x4 + 1), .ref am_SB, .ref 29], (mk B732), B732.kc, B732.kn)) rfl ?_
  obtain ⟨i733, h734, hr⟩ := bd_some hr
  refine x_sld rfl rfl h734 ?_
  obtain ⟨⟨v737, o736⟩, h735, hr⟩ := bd_some hr
  obtain ⟨B738, h739, hr⟩ := bd_some hr
  refine x_cW (wc_md (fun H hb hh hH => m_238 hb hh h735) h739) rfl rfl rfl rfl (am_recv_v ((rg_md (W := B732)).lt (i := 0) (show 0 < 17 by decide)) ((rg_md (W := B732)).at (i := 0) rfl) rfl) (by omega) ?_
  refine x_b 1 (S2 := (2030, [some (.ref am_SB), some (.ref 0), some (.ref 29), some (.ref 46), some (.int x4), some (.int v731), some (.int v737)], [], (mk B738), B738.kc, B738.kn)) rfl ?_
  refine x_ldan rfl rfl rfl ((rg_md (W := B738)).lt (i := 0) (show 0 < 17 by decide)) ?_
  obtain ⟨v741, h740, hr⟩ := bd_some hr
  refine x_cW (RnW.of0 (m_133 (rg_md (W := B738)) h740) ⟨rfl, rfl⟩) rfl rfl rfl rfl (am_recv_v ((rg_md (W := B738)).lt (i := 0) (show 0 < 17 by decide)) ((rg_md (W := B738)).at (i := 0) rfl) rfl) (by omega) ?_
  refine x_b 1 (S2 := (2036, [some (.ref am_SB), some (.ref 0), some (.ref 29), some (.ref 46), some (.int x4), some (.int v731), some (.int v737)], [.int v731, .int v741], (mk B738), B738.kc, B738.kn)) rfl ?_
  rcases ite_some hr with ⟨h742, hr⟩ | ⟨h742, hr⟩
  · refine x_ct rfl rfl (decide_eq_true h742) ?_
    refine x_b 1 (S2 := (2043, [some (.ref am_SB), some (.ref 0), some (.ref 29), some (.ref 46), some (.int x4), some (.int v731), some (.int v737)], [.int v731], (mk B738), B738.kc, B738.kn)) rfl ?_
    rcases ite_some hr with ⟨h743, hr⟩ | ⟨h743, hr⟩
    · refine x_zt rfl rfl (decide_eq_true h743) ?_
      refine x_fg (Lq.s (Lq.s (Lq.s (Lq.s (Lq.s (Lq.n (Lq.n Lq.nil))))))) ?_
      exact j_299_23_j2058 hd hr ka kx kr
    · refine x_zf rfl rfl (decide_eq_false h743) ?_
      refine x_ldan rfl rfl rfl ((rg_out (W := B738)).lt (i := 0) (show 0 < 1 by decide)) ?_
      refine x_b 1 (S2 := (2048, [some (.ref am_SB), some (.ref 0), some (.ref 29), some (.ref 46), some (.int x4), some (.int v731), some (.int v737)], [.int 0, .ref 46], (mk B738), B738.kc, B738.kn)) rfl ?_
      obtain ⟨i744, h745, hr⟩ := bd_some hr
      refine x_lald rfl rfl ((rg_out (W := B738)).lt (i := 0) (show 0 < 1 by decide)) ((rg_out (W := B738)).at (i := 0) rfl) h745 ?_
      refine x_b 3 (S2 := (2053, [some (.ref am_SB), some (.ref 0), some (.ref 29), some (.ref 46), some (.int x4), some (.int v731), some (.int v737)], [.int (lg_cmp (B738.out i744) v737.toInt64)], (mk B738), B738.kc, B738.kn)) rfl ?_
      rcases ite_some hr with ⟨h746, hr⟩ | ⟨h746, hr⟩
      · refine x_zt rfl rfl (decide_eq_true h746) ?_
        refine x_fg (Lq.s (Lq.s (Lq.s (Lq.s (Lq.s (Lq.n (Lq.n Lq.nil))))))) ?_
        exact j_299_23_j2058 hd hr ka kx kr
      · refine x_zf rfl rfl (decide_eq_false h746) ?_
        refine x_b 1 (S2 := (2057, [some (.ref am_SB), some (.ref 0), some (.ref 29), some (.ref 46), some (.int x4), some (.int v731), some (.int v737)], [.int 0], (mk B738), B738.kc, B738.kn)) rfl ?_
        rw [kr _ (Option.some.inj hr).symm]
        exact x_ret rfl rfl (am_ret_z (by decide))
  · refine x_cf rfl rfl (decide_eq_false h742) ?_
    refine x_b 1 (S2 := (2040, [some (.ref am_SB), some (.ref 0), some (.ref 29), some (.ref 46), some (.int x4), some (.int v731), some (.int v737)], [.int 0], (mk B738), B738.kc, B738.kn)) rfl ?_
    rw [kr _ (Option.some.inj hr).symm]
    exact x_ret rfl rfl (am_ret_z (by decide))
def J_299_23_j2138 (L : Nat) (xs : Nat → Int32) (B : Wd) (x4 : Int32) : Option ((Int32 × Wd) ⊕ (Wd) ⊕ (Int32 × Wd)) :=
  J_299_23_j2564 L xs B x4
set_option maxRecDepth 200000 in
theorem j_299_23_j2138 {d : Nat} (hd : 11 ≤ d) {L : Nat} {xs : Nat → Int32} {res : ARe} {B : Wd} {x4 : Int32} {o : (Int32 × Wd) ⊕ (Wd) ⊕ (Int32 × Wd)} (hr : J_299_23_j2138 L xs B x4 = some o) (ka : ∀ s, o = .inl s → Ex d am_M299 (some (L, xs)) (P_299_23 L xs s) res) (kx : ∀ s, o = .inr (.inl s) → Ex d am_M299 (some (L, xs)) (PX_299_23 L xs s) res) (kr : ∀ r, o = .inr (.inr r) → res = (.inl (some (.int r.1)), mk r.2, Wd.kc r.2, Wd.kn r.2)) : Ex d am_M299 (some (L, xs)) (2138, [some (.ref am_SB), some (.ref 0), some (.ref 29), some (.ref 46), some (.int x4), none, none], [], (mk B), B.kc, B.kn) res := by
  delta J_299_23_j2138 at hr
  refine x_b 1 (S2 := (2564, [some (.ref am_SB), some (.ref 0), some (.ref 29), some (.ref 46), some (.int x4), none, none], [], (mk B), B.kc, B.kn)) rfl ?_
  refine x_fg (Lq.s (Lq.s (Lq.s (Lq.s (Lq.s (Lq.s (Lq.s Lq.nil))))))) ?_
  exact j_299_23_j2564 hd hr ka kx kr
def J_299_23_j2061 (L : Nat) (xs : Nat → Int32) (B : Wd) (x4 : Int32) : Option ((Int32 × Wd) ⊕ (Wd) ⊕ (Int32 × Wd)) :=
  (ix (x4 + 1) L).bind fun i750 =>
  (ix (x4 + 2) L).bind fun i752 =>
  (ix (x4 + 3) L).bind fun i754 =>
  (F_291 B (xs i750) (xs i752) (xs i754)).bind fun (v757, B758) =>
  (ix (x4 + 1) L).bind fun i759 =>
  (ix (x4 + 2) L).bind fun i761 =>
  (ix (x4 + 3) L).bind fun i763 =>
  (F_239 B758.md (xs i759) (xs i761) (xs i763)).bind fun (v767, o766) =>
  (some (B758.w_md o766)).bind fun B768 =>
  (F_133 B768.md).bind fun v771 =>
  if v771 = v757 then
    if ¬ v757 = 0 then
      J_299_23_j2138 L xs B768 x4
    else
      (ix 0 1).bind fun i774 =>
      if (lg_cmp (B768.out i774) v767.toInt64) = 0 then
        J_299_23_j2138 L xs B768 x4
      else
        some (.inr (.inr (0, B768)))
  else
    some (.inr (.inr (0, B768)))
set_option maxRecDepth 200000 in
theorem j_299_23_j2061 {d : Nat} (hd : 11 ≤ d) {L : Nat} {xs : Nat → Int32} {res : ARe} {B : Wd} {x4 : Int32} {o : (Int32 × Wd) ⊕ (Wd) ⊕ (Int32 × Wd)} (hr : J_299_23_j2061 L xs B x4 = some o) (ka : ∀ s, o = .inl s → Ex d am_M299 (some (L, xs)) (P_299_23 L xs s) res) (kx : ∀ s, o = .inr (.inl s) → Ex d am_M299 (some (L, xs)) (PX_299_23 L xs s) res) (kr : ∀ r, o = .inr (.inr r) → res = (.inl (some (.int r.1)), mk r.2, Wd.kc r.2, Wd.kn r.2)) : Ex d am_M299 (some (L, xs)) (2061, [some (.ref am_SB), some (.ref 0), some (.ref 29), some (.ref 46), some (.int x4), none, none], [], (mk B), B.kc, B.kn) res := by
  delta J_299_23_j2061 at hr
  refine x_ldan rfl rfl rfl ((rg_pp (W := B)).lt (i := 0) (show 0 < 1 by decide)) ?_
  refine x_ldsn rfl rfl rfl ?_
  refine x_b 3 (S2 := (2067, [some (.ref am_SB), some (.ref 0), some (.ref 29), some (.ref 46), some (.int x4), none, none], [.int (x4 + 1), .ref am_SB, .ref 0], (mk B), B.kc, B.kn)) rfl ?_
  obtain ⟨i750, h751, hr⟩ := bd_some hr
  refine x_sld rfl rfl h751 ?_
  refine x_ldsn rfl rfl rfl ?_
  refine x_b 3 (S2 := (2073, [some (.ref am_SB), some (.ref 0), some (.ref 29), some (.ref 46), some (.int x4), none, none], [.int (x4 + 2), .ref am_SB, .int (xs i750), .ref 0], (mk B), B.kc, B.kn)) rfl ?_
  obtain ⟨i752, h753, hr⟩ := bd_some hr
  refine x_sld rfl rfl h753 ?_
  refine x_ldsn rfl rfl rfl ?_
  refine x_b 3 (S2 := (2079, [some (.ref am_SB), some (.ref 0), some (.ref 29), some (.ref 46), some (.int x4), none, none], [.int (x4 + 3), .ref am_SB, .int (xs i752), .int (xs i750), .ref 0], (mk B), B.kc, B.kn)) rfl ?_
  obtain ⟨i754, h755, hr⟩ := bd_some hr
  refine x_sld rfl rfl h755 ?_
  refine x_ldan rfl rfl rfl ((rg_out (W := B)).lt (i := 0) (show 0 < 1 by decide)) ?_
  obtain ⟨⟨v757, B758⟩, h756, hr⟩ := bd_some hr
  refine x_cW (m_291 h756) rfl rfl rfl rfl rfl (by omega) ?_
  refine x_b 1 (S2 := (2086, [some (.ref am_SB), some (.ref 0), some (.ref 29), some (.ref 46), some (.int x4), some (.int v757), none], [], (mk B758), B758.kc, B758.kn)) rfl ?_
  refine x_ldan rfl rfl rfl ((rg_md (W := B758)).lt (i := 0) (show 0 < 17 by decide)) ?_
  refine x_ldsn rfl rfl rfl ?_
  refine x_b 3 (S2 := (2092, [some (.ref am_SB), some (.ref 0), some (.ref 29), some (.ref 46), some (.int x4), some (.int v757), none], [.int (x4 + 1), .ref am_SB, .ref 29], (mk B758), B758.kc, B758.kn)) rfl ?_
  obtain ⟨i759, h760, hr⟩ := bd_some hr
  refine x_sld rfl rfl h760 ?_
  refine x_ldsn rfl rfl rfl ?_
  refine x_b 3 (S2 := (2098, [some (.ref am_SB), some (.ref 0), some (.ref 29), some (.ref 46), some (.int x4), some (.int v757), none], [.int (x4 + 2), .ref am_SB, .int (xs i759), .ref 29], (mk B758), B758.kc, B758.kn)) rfl ?_
  obtain ⟨i761, h762, hr⟩ := bd_some hr
  refine x_sld rfl rfl h762 ?_
  refine x_ldsn rfl rfl rfl ?_
  refine x_b 3 (S2 := (2104, [some (.ref am_SB), some (.ref 0), some (.ref 29), some (.ref 46), some (.int x4), some (.int v757), none], [.int (x4 + 3), .ref am_SB, .int (xs i761), .int (xs i759), .ref 29], (mk B758), B758.kc, B758.kn)) rfl ?_
  obtain ⟨i763, h764, hr⟩ := bd_some hr
  refine x_sld rfl rfl h764 ?_
  obtain ⟨⟨v767, o766⟩, h765, hr⟩ := bd_some hr
  obtain ⟨B768, h769, hr⟩ := bd_some hr
  refine x_cW (wc_md (fun H hb hh hH => m_239 hb hh h765) h769) rfl rfl rfl rfl (am_recv_v ((rg_md (W := B758)).lt (i := 0) (show 0 < 17 by decide)) ((rg_md (W := B758)).at (i := 0) rfl) rfl) (by omega) ?_
  refine x_b 1 (S2 := (2110, [some (.ref am_SB), some (.ref 0), some (.ref 29), some (.ref 46), some (.int x4), some (.int v757), some (.int v767)], [], (mk B768), B768.kc, B768.kn)) rfl ?_
  refine x_ldan rfl rfl rfl ((rg_md (W := B768)).lt (i := 0) (show 0 < 17 by decide)) ?_
  obtain ⟨v771, h770, hr⟩ := bd_some hr
  refine x_cW (RnW.of0 (m_133 (rg_md (W := B768)) h770) ⟨rfl, rfl⟩) rfl rfl rfl rfl (am_recv_v ((rg_md (W := B768)).lt (i := 0) (show 0 < 17 by decide)) ((rg_md (W := B768)).at (i := 0) rfl) rfl) (by omega) ?_
  refine x_b 1 (S2 := (2116, [some (.ref am_SB), some (.ref 0), some (.ref 29), some (.ref 46), some (.int x4), some (.int v757), some (.int v767)], [.int v757, .int v771], (mk B768), B768.kc, B768.kn)) rfl ?_
  rcases ite_some hr with ⟨h772, hr⟩ | ⟨h772, hr⟩
  · refine x_ct rfl rfl (decide_eq_true h772) ?_
    refine x_b 1 (S2 := (2123, [some (.ref am_SB), some (.ref 0), some (.ref 29), some (.ref 46), some (.int x4), some (.int v757), some (.int v767)], [.int v757], (mk B768), B768.kc, B768.kn)) rfl ?_
    rcases ite_some hr with ⟨h773, hr⟩ | ⟨h773, hr⟩
    · refine x_zt rfl rfl (decide_eq_true h773) ?_
      refine x_fg (Lq.s (Lq.s (Lq.s (Lq.s (Lq.s (Lq.n (Lq.n Lq.nil))))))) ?_
      exact j_299_23_j2138 hd hr ka kx kr
    · refine x_zf rfl rfl (decide_eq_false h773) ?_
      refine x_ldan rfl rfl rfl ((rg_out (W := B768)).lt (i := 0) (show 0 < 1 by decide)) ?_
      refine x_b 1 (S2 := (2128, [some (.ref am_SB), some (.ref 0), some (.ref 29), some (.ref 46), some (.int x4), some (.int v757), some (.int v767)], [.int 0, .ref 46], (mk B768), B768.kc, B768.kn)) rfl ?_
      obtain ⟨i774, h775, hr⟩ := bd_some hr
      refine x_lald rfl rfl ((rg_out (W := B768)).lt (i := 0) (show 0 < 1 by decide)) ((rg_out (W := B768)).at (i := 0) rfl) h775 ?_
      refine x_b 3 (S2 := (2133, [some (.ref am_SB), some (.ref 0), some (.ref 29), some (.ref 46), some (.int x4), some (.int v757), some (.int v767)], [.int (lg_cmp (B768.out i774) v767.toInt64)], (mk B768), B768.kc, B768.kn)) rfl ?_
      rcases ite_some hr with ⟨h776, hr⟩ | ⟨h776, hr⟩
      · refine x_zt rfl rfl (decide_eq_true h776) ?_
        refine x_fg (Lq.s (Lq.s (Lq.s (Lq.s (Lq.s (Lq.n (Lq.n Lq.nil))))))) ?_
        exact j_299_23_j2138 hd hr ka kx kr
      · refine x_zf rfl rfl (decide_eq_false h776) ?_
        refine x_b 1 (S2 := (2137, [some (.ref am_SB), some (.ref 0), some (.ref 29), some (.ref 46), some (.int x4), some (.int v757), some (.int v767)], [.int 0], (mk B768), B768.kc, B768.kn)) rfl ?_
        rw [kr _ (Option.some.inj hr).symm]
        exact x_ret rfl rfl (am_ret_z (by decide))
  · refine x_cf rfl rfl (decide_eq_false h772) ?_
    refine x_b 1 (S2 := (2120, [some (.ref am_SB), some (.ref 0), some (.ref 29), some (.ref 46), some (.int x4), some (.int v757), some (.int v767)], [.int 0], (mk B768), B768.kc, B768.kn)) rfl ?_
    rw [kr _ (Option.some.inj hr).symm]
    exact x_ret rfl rfl (am_ret_z (by decide))
def J_299_23_j2194 (L : Nat) (xs : Nat → Int32) (B : Wd) (x4 : Int32) : Option ((Int32 × Wd) ⊕ (Wd) ⊕ (Int32 × Wd)) :=
  J_299_23_j2564 L xs B x4
set_option maxRecDepth 200000 in
theorem j_299_23_j2194 {d : Nat} (hd : 11 ≤ d) {L : Nat} {xs : Nat → Int32} {res : ARe} {B : Wd} {x4 : Int32} {o : (Int32 × Wd) ⊕ (Wd) ⊕ (Int32 × Wd)} (hr : J_299_23_j2194 L xs B x4 = some o) (ka : ∀ s, o = .inl s → Ex d am_M299 (some (L, xs)) (P_299_23 L xs s) res) (kx : ∀ s, o = .inr (.inl s) → Ex d am_M299 (some (L, xs)) (PX_299_23 L xs s) res) (kr : ∀ r, o = .inr (.inr r) → res = (.inl (some (.int r.1)), mk r.2, Wd.kc r.2, Wd.kn r.2)) : Ex d am_M299 (some (L, xs)) (2194, [some (.ref am_SB), some (.ref 0), some (.ref 29), some (.ref 46), some (.int x4), none, none], [], (mk B), B.kc, B.kn) res := by
  delta J_299_23_j2194 at hr
  refine x_b 1 (S2 := (2564, [some (.ref am_SB), some (.ref 0), some (.ref 29), some (.ref 46), some (.int x4), none, none], [], (mk B), B.kc, B.kn)) rfl ?_
  refine x_fg (Lq.s (Lq.s (Lq.s (Lq.s (Lq.s (Lq.s (Lq.s Lq.nil))))))) ?_
  exact j_299_23_j2564 hd hr ka kx kr
def J_299_23_j2141 (L : Nat) (xs : Nat → Int32) (B : Wd) (x4 : Int32) : Option ((Int32 × Wd) ⊕ (Wd) ⊕ (Int32 × Wd)) :=
  (ix (x4 + 1) L).bind fun i780 =>
  (F_292 B (xs i780)).bind fun (v783, B784) =>
  (ix (x4 + 1) L).bind fun i785 =>
  (F_242 B784.md (xs i785)).bind fun (v789, o788) =>
  (some (B784.w_md o788)).bind fun B790 =>
  (F_133 B790.md).bind fun v793 =>
  if v793 = v783 then
    if ¬ v783 = 0 then
      J_299_23_j2194 L xs B790 x4
    else
      (ix 0 1).bind fun i796 =>
      if (lg_cmp (B790.out i796) v789.toInt64) = 0 then
        J_299_23_j2194 L xs B790 x4
      else
        some (.inr (.inr (0, B790)))
  else
    some (.inr (.inr (0, B790)))
set_option maxRecDepth 200000 in
theorem j_299_23_j2141 {d : Nat} (hd : 11 ≤ d) {L : Nat} {xs : Nat → Int32} {res : ARe} {B : Wd} {x4 : Int32} {o : (Int32 × Wd) ⊕ (Wd) ⊕ (Int32 × Wd)} (hr : J_299_23_j2141 L xs B x4 = some o) (ka : ∀ s, o = .inl s → Ex d am_M299 (some (L, xs)) (P_299_23 L xs s) res) (kx : ∀ s, o = .inr (.inl s) → Ex d am_M299 (some (L, xs)) (PX_299_23 L xs s) res) (kr : ∀ r, o = .inr (.inr r) → res = (.inl (some (.int r.1)), mk r.2, Wd.kc r.2, Wd.kn r.2)) : Ex d am_M299 (some (L, xs)) (2141, [some (.ref am_SB), some (.ref 0), some (.ref 29), some (.ref 46), some (.int x4), none, none], [], (mk B), B.kc, B.kn) res := by
  delta J_299_23_j2141 at hr
  refine x_ldan rfl rfl rfl ((rg_pp (W := B)).lt (i := 0) (show 0 < 1 by decide)) ?_
  refine x_ldsn rfl rfl rfl ?_
  refine x_b 3 (S2 := (2147, [some (.ref am_SB), some (.ref 0), some (.ref 29), some (.ref 46), some (.int x4), none, none], [.int (x4 + 1), .ref am_SB, .ref 0], (mk B), B.kc, B.kn)) rfl ?_
  obtain ⟨i780, h781, hr⟩ := bd_some hr
  refine x_sld rfl rfl h781 ?_
  refine x_ldan rfl rfl rfl ((rg_out (W := B)).lt (i := 0) (show 0 < 1 by decide)) ?_
  obtain ⟨⟨v783, B784⟩, h782, hr⟩ := bd_some hr
  refine x_cW (m_292 h782) rfl rfl rfl rfl rfl (by omega) ?_
  refine x_b 1 (S2 := (2154, [some (.ref am_SB), some (.ref 0), some (.ref 29), some (.ref 46), some (.int x4), some (.int v783), none], [], (mk B784), B784.kc, B784.kn)) rfl ?_
  refine x_ldan rfl rfl rfl ((rg_md (W := B784)).lt (i := 0) (show 0 < 17 by decide)) ?_
  refine x_ldsn rfl rfl rfl ?_
  refine x_b 3 (S2 := (2160, [some (.ref am_SB), some (.ref 0), some (.ref 29), some (.ref 46), some (.int x4), some (.int v783), none], [.int (x4 + 1), .ref am_SB, .ref 29], (mk B784), B784.kc, B784.kn)) rfl ?_
  obtain ⟨i785, h786, hr⟩ := bd_some hr
  refine x_sld rfl rfl h786 ?_
  obtain ⟨⟨v789, o788⟩, h787, hr⟩ := bd_some hr
  obtain ⟨B790, h791, hr⟩ := bd_some hr
  refine x_cW (wc_md (fun H hb hh hH => m_242 hb hh h787) h791) rfl rfl rfl rfl (am_recv_v ((rg_md (W := B784)).lt (i := 0) (show 0 < 17 by decide)) ((rg_md (W := B784)).at (i := 0) rfl) rfl) (by omega) ?_
  refine x_b 1 (S2 := (2166, [some (.ref am_SB), some (.ref 0), some (.ref 29), some (.ref 46), some (.int x4), some (.int v783), some (.int v789)], [], (mk B790), B790.kc, B790.kn)) rfl ?_
  refine x_ldan rfl rfl rfl ((rg_md (W := B790)).lt (i := 0) (show 0 < 17 by decide)) ?_
  obtain ⟨v793, h792, hr⟩ := bd_some hr
  refine x_cW (RnW.of0 (m_133 (rg_md (W := B790)) h792) ⟨rfl, rfl⟩) rfl rfl rfl rfl (am_recv_v ((rg_md (W := B790)).lt (i := 0) (show 0 < 17 by decide)) ((rg_md (W := B790)).at (i := 0) rfl) rfl) (by omega) ?_
  refine x_b 1 (S2 := (2172, [some (.ref am_SB), some (.ref 0), some (.ref 29), some (.ref 46), some (.int x4), some (.int v783), some (.int v789)], [.int v783, .int v793], (mk B790), B790.kc, B790.kn)) rfl ?_
  rcases ite_some hr with ⟨h794, hr⟩ | ⟨h794, hr⟩
  · refine x_ct rfl rfl (decide_eq_true h794) ?_
    refine x_b 1 (S2 := (2179, [some (.ref am_SB), some (.ref 0), some (.ref 29), some (.ref 46), some (.int x4), some (.int v783), some (.int v789)], [.int v783], (mk B790), B790.kc, B790.kn)) rfl ?_
    rcases ite_some hr with ⟨h795, hr⟩ | ⟨h795, hr⟩
    · refine x_zt rfl rfl (decide_eq_true h795) ?_
      refine x_fg (Lq.s (Lq.s (Lq.s (Lq.s (Lq.s (Lq.n (Lq.n Lq.nil))))))) ?_
      exact j_299_23_j2194 hd hr ka kx kr
    · refine x_zf rfl rfl (decide_eq_false h795) ?_
      refine x_ldan rfl rfl rfl ((rg_out (W := B790)).lt (i := 0) (show 0 < 1 by decide)) ?_
      refine x_b 1 (S2 := (2184, [some (.ref am_SB), some (.ref 0), some (.ref 29), some (.ref 46), some (.int x4), some (.int v783), some (.int v789)], [.int 0, .ref 46], (mk B790), B790.kc, B790.kn)) rfl ?_
      obtain ⟨i796, h797, hr⟩ := bd_some hr
      refine x_lald rfl rfl ((rg_out (W := B790)).lt (i := 0) (show 0 < 1 by decide)) ((rg_out (W := B790)).at (i := 0) rfl) h797 ?_
      refine x_b 3 (S2 := (2189, [some (.ref am_SB), some (.ref 0), some (.ref 29), some (.ref 46), some (.int x4), some (.int v783), some (.int v789)], [.int (lg_cmp (B790.out i796) v789.toInt64)], (mk B790), B790.kc, B790.kn)) rfl ?_
      rcases ite_some hr with ⟨h798, hr⟩ | ⟨h798, hr⟩
      · refine x_zt rfl rfl (decide_eq_true h798) ?_
        refine x_fg (Lq.s (Lq.s (Lq.s (Lq.s (Lq.s (Lq.n (Lq.n Lq.nil))))))) ?_
        exact j_299_23_j2194 hd hr ka kx kr
      · refine x_zf rfl rfl (decide_eq_false h798) ?_
        refine x_b 1 (S2 := (2193, [some (.ref am_SB), some (.ref 0), some (.ref 29), some (.ref 46), some (.int x4), some (.int v783), some (.int v789)], [.int 0], (mk B790), B790.kc, B790.kn)) rfl ?_
        rw [kr _ (Option.some.inj hr).symm]
        exact x_ret rfl rfl (am_ret_z (by decide))
  · refine x_cf rfl rfl (decide_eq_false h794) ?_
    refine x_b 1 (S2 := (2176, [some (.ref am_SB), some (.ref 0), some (.ref 29), some (.ref 46), some (.int x4), some (.int v783), some (.int v789)], [.int 0], (mk B790), B790.kc, B790.kn)) rfl ?_
    rw [kr _ (Option.some.inj hr).symm]
    exact x_ret rfl rfl (am_ret_z (by decide))
def J_299_23_j2278 (L : Nat) (xs : Nat → Int32) (B : Wd) (x4 : Int32) : Option ((Int32 × Wd) ⊕ (Wd) ⊕ (Int32 × Wd)) :=
  J_299_23_j2564 L xs B x4
set_option maxRecDepth 200000 in
theorem j_299_23_j2278 {d : Nat} (hd : 11 ≤ d) {L : Nat} {xs : Nat → Int32} {res : ARe} {B : Wd} {x4 : Int32} {o : (Int32 × Wd) ⊕ (Wd) ⊕ (Int32 × Wd)} (hr : J_299_23_j2278 L xs B x4 = some o) (ka : ∀ s, o = .inl s → Ex d am_M299 (some (L, xs)) (P_299_23 L xs s) res) (kx : ∀ s, o = .inr (.inl s) → Ex d am_M299 (some (L, xs)) (PX_299_23 L xs s) res) (kr : ∀ r, o = .inr (.inr r) → res = (.inl (some (.int r.1)), mk r.2, Wd.kc r.2, Wd.kn r.2)) : Ex d am_M299 (some (L, xs)) (2278, [some (.ref am_SB), some (.ref 0), some (.ref 29), some (.ref 46), some (.int x4), none, none], [], (mk B), B.kc, B.kn) res := by
  delta J_299_23_j2278 at hr
  refine x_b 1 (S2 := (2564, [some (.ref am_SB), some (.ref 0), some (.ref 29), some (.ref 46), some (.int x4), none, none], [], (mk B), B.kc, B.kn)) rfl ?_
  refine x_fg (Lq.s (Lq.s (Lq.s (Lq.s (Lq.s (Lq.s (Lq.s Lq.nil))))))) ?_
  exact j_299_23_j2564 hd hr ka kx kr
def J_299_23_j2245 (L : Nat) (xs : Nat → Int32) (B : Wd) (x4 : Int32) (x5 : Int32) (t0 : Int32) (t1 : Int32) : Option ((Int32 × Wd) ⊕ (Wd) ⊕ (Int32 × Wd)) :=
  (F_244 B.md t1 t0).bind fun (v817, o816) =>
  (some (B.w_md o816)).bind fun B818 =>
  (F_133 B818.md).bind fun v821 =>
  if v821 = x5 then
    if ¬ x5 = 0 then
      J_299_23_j2278 L xs B818 x4
    else
      (ix 0 1).bind fun i824 =>
      if (lg_cmp (B818.out i824) v817.toInt64) = 0 then
        J_299_23_j2278 L xs B818 x4
      else
        some (.inr (.inr (0, B818)))
  else
    some (.inr (.inr (0, B818)))
set_option maxRecDepth 200000 in
theorem j_299_23_j2245 {d : Nat} (hd : 11 ≤ d) {L : Nat} {xs : Nat → Int32} {res : ARe} {B : Wd} {x4 : Int32} {x5 : Int32} {t0 : Int32} {t1 : Int32} {o : (Int32 × Wd) ⊕ (Wd) ⊕ (Int32 × Wd)} (hr : J_299_23_j2245 L xs B x4 x5 t0 t1 = some o) (ka : ∀ s, o = .inl s → Ex d am_M299 (some (L, xs)) (P_299_23 L xs s) res) (kx : ∀ s, o = .inr (.inl s) → Ex d am_M299 (some (L, xs)) (PX_299_23 L xs s) res) (kr : ∀ r, o = .inr (.inr r) → res = (.inl (some (.int r.1)), mk r.2, Wd.kc r.2, Wd.kn r.2)) : Ex d am_M299 (some (L, xs)) (2245, [some (.ref am_SB), some (.ref 0), some (.ref 29), some (.ref 46), some (.int x4), some (.int x5), none], [.int t0, .int t1, .ref 29], (mk B), B.kc, B.kn) res := by
  delta J_299_23_j2245 at hr
  obtain ⟨⟨v817, o816⟩, h815, hr⟩ := bd_some hr
  obtain ⟨B818, h819, hr⟩ := bd_some hr
  refine x_cW (wc_md (fun H hb hh hH => m_244 hb hh h815) h819) rfl rfl rfl rfl (am_recv_v ((rg_md (W := B)).lt (i := 0) (show 0 < 17 by decide)) ((rg_md (W := B)).at (i := 0) rfl) rfl) (by omega) ?_
  refine x_b 1 (S2 := (2250, [some (.ref am_SB), some (.ref 0), some (.ref 29), some (.ref 46), some (.int x4), some (.int x5), some (.int v817)], [], (mk B818), B818.kc, B818.kn)) rfl ?_
  refine x_ldan rfl rfl rfl ((rg_md (W := B818)).lt (i := 0) (show 0 < 17 by decide)) ?_
  obtain ⟨v821, h820, hr⟩ := bd_some hr
  refine x_cW (RnW.of0 (m_133 (rg_md (W := B818)) h820) ⟨rfl, rfl⟩) rfl rfl rfl rfl (am_recv_v ((rg_md (W := B818)).lt (i := 0) (show 0 < 17 by decide)) ((rg_md (W := B818)).at (i := 0) rfl) rfl) (by omega) ?_
  refine x_b 1 (S2 := (2256, [some (.ref am_SB), some (.ref 0), some (.ref 29), some (.ref 46), some (.int x4), some (.int x5), some (.int v817)], [.int x5, .int v821], (mk B818), B818.kc, B818.kn)) rfl ?_
  rcases ite_some hr with ⟨h822, hr⟩ | ⟨h822, hr⟩
  · refine x_ct rfl rfl (decide_eq_true h822) ?_
    refine x_b 1 (S2 := (2263, [some (.ref am_SB), some (.ref 0), some (.ref 29), some (.ref 46), some (.int x4), some (.int x5), some (.int v817)], [.int x5], (mk B818), B818.kc, B818.kn)) rfl ?_
    rcases ite_some hr with ⟨h823, hr⟩ | ⟨h823, hr⟩
    · refine x_zt rfl rfl (decide_eq_true h823) ?_
      refine x_fg (Lq.s (Lq.s (Lq.s (Lq.s (Lq.s (Lq.n (Lq.n Lq.nil))))))) ?_
      exact j_299_23_j2278 hd hr ka kx kr
    · refine x_zf rfl rfl (decide_eq_false h823) ?_
      refine x_ldan rfl rfl rfl ((rg_out (W := B818)).lt (i := 0) (show 0 < 1 by decide)) ?_
      refine x_b 1 (S2 := (2268, [some (.ref am_SB), some (.ref 0), some (.ref 29), some (.ref 46), some (.int x4), some (.int x5), some (.int v817)], [.int 0, .ref 46], (mk B818), B818.kc, B818.kn)) rfl ?_
      obtain ⟨i824, h825, hr⟩ := bd_some hr
      refine x_lald rfl rfl ((rg_out (W := B818)).lt (i := 0) (show 0 < 1 by decide)) ((rg_out (W := B818)).at (i := 0) rfl) h825 ?_
      refine x_b 3 (S2 := (2273, [some (.ref am_SB), some (.ref 0), some (.ref 29), some (.ref 46), some (.int x4), some (.int x5), some (.int v817)], [.int (lg_cmp (B818.out i824) v817.toInt64)], (mk B818), B818.kc, B818.kn)) rfl ?_
      rcases ite_some hr with ⟨h826, hr⟩ | ⟨h826, hr⟩
      · refine x_zt rfl rfl (decide_eq_true h826) ?_
        refine x_fg (Lq.s (Lq.s (Lq.s (Lq.s (Lq.s (Lq.n (Lq.n Lq.nil))))))) ?_
        exact j_299_23_j2278 hd hr ka kx kr
      · refine x_zf rfl rfl (decide_eq_false h826) ?_
        refine x_b 1 (S2 := (2277, [some (.ref am_SB), some (.ref 0), some (.ref 29), some (.ref 46), some (.int x4), some (.int x5), some (.int v817)], [.int 0], (mk B818), B818.kc, B818.kn)) rfl ?_
        rw [kr _ (Option.some.inj hr).symm]
        exact x_ret rfl rfl (am_ret_z (by decide))
  · refine x_cf rfl rfl (decide_eq_false h822) ?_
    refine x_b 1 (S2 := (2260, [some (.ref am_SB), some (.ref 0), some (.ref 29), some (.ref 46), some (.int x4), some (.int x5), some (.int v817)], [.int 0], (mk B818), B818.kc, B818.kn)) rfl ?_
    rw [kr _ (Option.some.inj hr).symm]
    exact x_ret rfl rfl (am_ret_z (by decide))
def J_299_23_j2218 (L : Nat) (xs : Nat → Int32) (B : Wd) (x4 : Int32) (t0 : Int32) (t1 : Int32) : Option ((Int32 × Wd) ⊕ (Wd) ⊕ (Int32 × Wd)) :=
  (F_293 B t1 t0).bind fun (v808, B809) =>
  (ix (x4 + 1) L).bind fun i810 =>
  (ix (x4 + 2) L).bind fun i812 =>
  if (xs i812) = 0 then
    J_299_23_j2245 L xs B809 x4 v808 0 (xs i810)
  else
    J_299_23_j2245 L xs B809 x4 v808 1 (xs i810)
set_option maxRecDepth 200000 in
theorem j_299_23_j2218 {d : Nat} (hd : 11 ≤ d) {L : Nat} {xs : Nat → Int32} {res : ARe} {B : Wd} {x4 : Int32} {t0 : Int32} {t1 : Int32} {o : (Int32 × Wd) ⊕ (Wd) ⊕ (Int32 × Wd)} (hr : J_299_23_j2218 L xs B x4 t0 t1 = some o) (ka : ∀ s, o = .inl s → Ex d am_M299 (some (L, xs)) (P_299_23 L xs s) res) (kx : ∀ s, o = .inr (.inl s) → Ex d am_M299 (some (L, xs)) (PX_299_23 L xs s) res) (kr : ∀ r, o = .inr (.inr r) → res = (.inl (some (.int r.1)), mk r.2, Wd.kc r.2, Wd.kn r.2)) : Ex d am_M299 (some (L, xs)) (2218, [some (.ref am_SB), some (.ref 0), some (.ref 29), some (.ref 46), some (.int x4), none, none], [.int t0, .int t1, .ref 0], (mk B), B.kc, B.kn) res := by
  delta J_299_23_j2218 at hr
  refine x_ldan rfl rfl rfl ((rg_out (W := B)).lt (i := 0) (show 0 < 1 by decide)) ?_
  obtain ⟨⟨v808, B809⟩, h807, hr⟩ := bd_some hr
  refine x_cW (m_293 h807) rfl rfl rfl rfl rfl (by omega) ?_
  refine x_b 1 (S2 := (2224, [some (.ref am_SB), some (.ref 0), some (.ref 29), some (.ref 46), some (.int x4), some (.int v808), none], [], (mk B809), B809.kc, B809.kn)) rfl ?_
  refine x_ldan rfl rfl rfl ((rg_md (W := B809)).lt (i := 0) (show 0 < 17 by decide)) ?_
  refine x_ldsn rfl rfl rfl ?_
  refine x_b 3 (S2 := (2230, [some (.ref am_SB), some (.ref 0), some (.ref 29), some (.ref 46), some (.int x4), some (.int v808), none], [.int (x4 + 1), .ref am_SB, .ref 29], (mk B809), B809.kc, B809.kn)) rfl ?_
  obtain ⟨i810, h811, hr⟩ := bd_some hr
  refine x_sld rfl rfl h811 ?_
  refine x_ldsn rfl rfl rfl ?_
  refine x_b 3 (S2 := (2236, [some (.ref am_SB), some (.ref 0), some (.ref 29), some (.ref 46), some (.int x4), some (.int v808), none], [.int (x4 + 2), .ref am_SB, .int (xs i810), .ref 29], (mk B809), B809.kc, B809.kn)) rfl ?_
  obtain ⟨i812, h813, hr⟩ := bd_some hr
  refine x_sld rfl rfl h813 ?_
  rcases ite_some hr with ⟨h814, hr⟩ | ⟨h814, hr⟩
  · refine x_zt rfl rfl (decide_eq_true h814) ?_
    refine x_b 1 (S2 := (2245, [some (.ref am_SB), some (.ref 0), some (.ref 29), some (.ref 46), some (.int x4), some (.int v808), none], [.int 0, .int (xs i810), .ref 29], (mk B809), B809.kc, B809.kn)) rfl ?_
    refine x_fg (Lq.s (Lq.s (Lq.s (Lq.s (Lq.s (Lq.s (Lq.s Lq.nil))))))) ?_
    exact j_299_23_j2245 hd hr ka kx kr
  · refine x_zf rfl rfl (decide_eq_false h814) ?_
    refine x_b 2 (S2 := (2245, [some (.ref am_SB), some (.ref 0), some (.ref 29), some (.ref 46), some (.int x4), some (.int v808), none], [.int 1, .int (xs i810), .ref 29], (mk B809), B809.kc, B809.kn)) rfl ?_
    refine x_fg (Lq.s (Lq.s (Lq.s (Lq.s (Lq.s (Lq.s (Lq.s Lq.nil))))))) ?_
    exact j_299_23_j2245 hd hr ka kx kr
def J_299_23_j2197 (L : Nat) (xs : Nat → Int32) (B : Wd) (x4 : Int32) : Option ((Int32 × Wd) ⊕ (Wd) ⊕ (Int32 × Wd)) :=
  (ix (x4 + 1) L).bind fun i802 =>
  (ix (x4 + 2) L).bind fun i804 =>
  if (xs i804) = 0 then
    J_299_23_j2218 L xs B x4 0 (xs i802)
  else
    J_299_23_j2218 L xs B x4 1 (xs i802)
set_option maxRecDepth 200000 in
theorem j_299_23_j2197 {d : Nat} (hd : 11 ≤ d) {L : Nat} {xs : Nat → Int32} {res : ARe} {B : Wd} {x4 : Int32} {o : (Int32 × Wd) ⊕ (Wd) ⊕ (Int32 × Wd)} (hr : J_299_23_j2197 L xs B x4 = some o) (ka : ∀ s, o = .inl s → Ex d am_M299 (some (L, xs)) (P_299_23 L xs s) res) (kx : ∀ s, o = .inr (.inl s) → Ex d am_M299 (some (L, xs)) (PX_299_23 L xs s) res) (kr : ∀ r, o = .inr (.inr r) → res = (.inl (some (.int r.1)), mk r.2, Wd.kc r.2, Wd.kn r.2)) : Ex d am_M299 (some (L, xs)) (2197, [some (.ref am_SB), some (.ref 0), some (.ref 29), some (.ref 46), some (.int x4), none, none], [], (mk B), B.kc, B.kn) res := by
  delta J_299_23_j2197 at hr
  refine x_ldan rfl rfl rfl ((rg_pp (W := B)).lt (i := 0) (show 0 < 1 by decide)) ?_
  refine x_ldsn rfl rfl rfl ?_
  refine x_b 3 (S2 := (2203, [some (.ref am_SB), some (.ref 0), some (.ref 29), some (.ref 46), some (.int x4), none, none], [.int (x4 + 1), .ref am_SB, .ref 0], (mk B), B.kc, B.kn)) rfl ?_
  obtain ⟨i802, h803, hr⟩ := bd_some hr
  refine x_sld rfl rfl h803 ?_
  refine x_ldsn rfl rfl rfl ?_
  refine x_b 3 (S2 := (2209, [some (.ref am_SB), some (.ref 0), some (.ref 29), some (.ref 46), some (.int x4), none, none], [.int (x4 + 2), .ref am_SB, .int (xs i802), .ref 0], (mk B), B.kc, B.kn)) rfl ?_
  obtain ⟨i804, h805, hr⟩ := bd_some hr
  refine x_sld rfl rfl h805 ?_
  rcases ite_some hr with ⟨h806, hr⟩ | ⟨h806, hr⟩
  · refine x_zt rfl rfl (decide_eq_true h806) ?_
    refine x_b 1 (S2 := (2218, [some (.ref am_SB), some (.ref 0), some (.ref 29), some (.ref 46), some (.int x4), none, none], [.int 0, .int (xs i802), .ref 0], (mk B), B.kc, B.kn)) rfl ?_
    refine x_fg (Lq.s (Lq.s (Lq.s (Lq.s (Lq.s (Lq.s (Lq.s Lq.nil))))))) ?_
    exact j_299_23_j2218 hd hr ka kx kr
  · refine x_zf rfl rfl (decide_eq_false h806) ?_
    refine x_b 2 (S2 := (2218, [some (.ref am_SB), some (.ref 0), some (.ref 29), some (.ref 46), some (.int x4), none, none], [.int 1, .int (xs i802), .ref 0], (mk B), B.kc, B.kn)) rfl ?_
    refine x_fg (Lq.s (Lq.s (Lq.s (Lq.s (Lq.s (Lq.s (Lq.s Lq.nil))))))) ?_
    exact j_299_23_j2218 hd hr ka kx kr
def J_299_23_j2341 (L : Nat) (xs : Nat → Int32) (B : Wd) (x4 : Int32) : Option ((Int32 × Wd) ⊕ (Wd) ⊕ (Int32 × Wd)) :=
  J_299_23_j2564 L xs B x4
set_option maxRecDepth 200000 in
theorem j_299_23_j2341 {d : Nat} (hd : 11 ≤ d) {L : Nat} {xs : Nat → Int32} {res : ARe} {B : Wd} {x4 : Int32} {o : (Int32 × Wd) ⊕ (Wd) ⊕ (Int32 × Wd)} (hr : J_299_23_j2341 L xs B x4 = some o) (ka : ∀ s, o = .inl s → Ex d am_M299 (some (L, xs)) (P_299_23 L xs s) res) (kx : ∀ s, o = .inr (.inl s) → Ex d am_M299 (some (L, xs)) (PX_299_23 L xs s) res) (kr : ∀ r, o = .inr (.inr r) → res = (.inl (some (.int r.1)), mk r.2, Wd.kc r.2, Wd.kn r.2)) : Ex d am_M299 (some (L, xs)) (2341, [some (.ref am_SB), some (.ref 0), some (.ref 29), some (.ref 46), some (.int x4), none, none], [], (mk B), B.kc, B.kn) res := by
  delta J_299_23_j2341 at hr
  refine x_b 1 (S2 := (2564, [some (.ref am_SB), some (.ref 0), some (.ref 29), some (.ref 46), some (.int x4), none, none], [], (mk B), B.kc, B.kn)) rfl ?_
  refine x_fg (Lq.s (Lq.s (Lq.s (Lq.s (Lq.s (Lq.s (Lq.s Lq.nil))))))) ?_
  exact j_299_23_j2564 hd hr ka kx kr
def J_299_23_j2335 (L : Nat) (xs : Nat → Int32) (B : Wd) (x4 : Int32) (t0 : Int64) (t1 : Int64) : Option ((Int32 × Wd) ⊕ (Wd) ⊕ (Int32 × Wd)) :=
  if (lg_cmp t1 t0) = 0 then
    J_299_23_j2341 L xs B x4
  else
    some (.inr (.inr (0, B)))
set_option maxRecDepth 200000 in
theorem j_299_23_j2335 {d : Nat} (hd : 11 ≤ d) {L : Nat} {xs : Nat → Int32} {res : ARe} {B : Wd} {x4 : Int32} {t0 : Int64} {t1 : Int64} {o : (Int32 × Wd) ⊕ (Wd) ⊕ (Int32 × Wd)} (hr : J_299_23_j2335 L xs B x4 t0 t1 = some o) (ka : ∀ s, o = .inl s → Ex d am_M299 (some (L, xs)) (P_299_23 L xs s) res) (kx : ∀ s, o = .inr (.inl s) → Ex d am_M299 (some (L, xs)) (PX_299_23 L xs s) res) (kr : ∀ r, o = .inr (.inr r) → res = (.inl (some (.int r.1)), mk r.2, Wd.kc r.2, Wd.kn r.2)) : Ex d am_M299 (some (L, xs)) (2335, [some (.ref am_SB), some (.ref 0), some (.ref 29), some (.ref 46), some (.int x4), none, none], [.long t0, .long t1], (mk B), B.kc, B.kn) res := by
  delta J_299_23_j2335 at hr
  refine x_b 1 (S2 := (2336, [some (.ref am_SB), some (.ref 0), some (.ref 29), some (.ref 46), some (.int x4), none, none], [.int (lg_cmp t1 t0)], (mk B), B.kc, B.kn)) rfl ?_
  rcases ite_some hr with ⟨h849, hr⟩ | ⟨h849, hr⟩
  · refine x_zt rfl rfl (decide_eq_true h849) ?_
    refine x_fg (Lq.s (Lq.s (Lq.s (Lq.s (Lq.s (Lq.s (Lq.s Lq.nil))))))) ?_
    exact j_299_23_j2341 hd hr ka kx kr
  · refine x_zf rfl rfl (decide_eq_false h849) ?_
    refine x_b 1 (S2 := (2340, [some (.ref am_SB), some (.ref 0), some (.ref 29), some (.ref 46), some (.int x4), none, none], [.int 0], (mk B), B.kc, B.kn)) rfl ?_
    rw [kr _ (Option.some.inj hr).symm]
    exact x_ret rfl rfl (am_ret_z (by decide))
def J_299_23_j2281 (L : Nat) (xs : Nat → Int32) (B : Wd) (x4 : Int32) : Option ((Int32 × Wd) ⊕ (Wd) ⊕ (Int32 × Wd)) :=
  (ix (x4 + 1) L).bind fun i830 =>
  (F_294 B (xs i830)).bind fun (v833, B834) =>
  (ix (x4 + 1) L).bind fun i835 =>
  (F_245 B834.md (xs i835)).bind fun (v839, o838) =>
  (some (B834.w_md o838)).bind fun B840 =>
  (F_133 B840.md).bind fun v843 =>
  if v843 = v833 then
    if ¬ v833 = 0 then
      J_299_23_j2341 L xs B840 x4
    else
      (ix 0 1).bind fun i846 =>
      if v839 = 0 then
        J_299_23_j2335 L xs B840 x4 0 (B840.out i846)
      else
        J_299_23_j2335 L xs B840 x4 1 (B840.out i846)
  else
    some (.inr (.inr (0, B840)))
set_option maxRecDepth 200000 in
theorem j_299_23_j2281 {d : Nat} (hd : 11 ≤ d) {L : Nat} {xs : Nat → Int32} {res : ARe} {B : Wd} {x4 : Int32} {o : (Int32 × Wd) ⊕ (Wd) ⊕ (Int32 × Wd)} (hr : J_299_23_j2281 L xs B x4 = some o) (ka : ∀ s, o = .inl s → Ex d am_M299 (some (L, xs)) (P_299_23 L xs s) res) (kx : ∀ s, o = .inr (.inl s) → Ex d am_M299 (some (L, xs)) (PX_299_23 L xs s) res) (kr : ∀ r, o = .inr (.inr r) → res = (.inl (some (.int r.1)), mk r.2, Wd.kc r.2, Wd.kn r.2)) : Ex d am_M299 (some (L, xs)) (2281, [some (.ref am_SB), some (.ref 0), some (.ref 29), some (.ref 46), some (.int x4), none, none], [], (mk B), B.kc, B.kn) res := by
  delta J_299_23_j2281 at hr
  refine x_ldan rfl rfl rfl ((rg_pp (W := B)).lt (i := 0) (show 0 < 1 by decide)) ?_
  refine x_ldsn rfl rfl rfl ?_
  refine x_b 3 (S2 := (2287, [some (.ref am_SB), some (.ref 0), some (.ref 29), some (.ref 46), some (.int x4), none, none], [.int (x4 + 1), .ref am_SB, .ref 0], (mk B), B.kc, B.kn)) rfl ?_
  obtain ⟨i830, h831, hr⟩ := bd_some hr
  refine x_sld rfl rfl h831 ?_
  refine x_ldan rfl rfl rfl ((rg_out (W := B)).lt (i := 0) (show 0 < 1 by decide)) ?_
  obtain ⟨⟨v833, B834⟩, h832, hr⟩ := bd_some hr
  refine x_cW (m_294 h832) rfl rfl rfl rfl rfl (by omega) ?_
  refine x_b 1 (S2 := (2294, [some (.ref am_SB), some (.ref 0), some (.ref 29), some (.ref 46), some (.int x4), some (.int v833), none], [], (mk B834), B834.kc, B834.kn)) rfl ?_
  refine x_ldan rfl rfl rfl ((rg_md (W := B834)).lt (i := 0) (show 0 < 17 by decide)) ?_
  refine x_ldsn rfl rfl rfl ?_
  refine x_b 3 (S2 := (2300, [some (.ref am_SB), some (.ref 0), some (.ref 29), some (.ref 46), some (.int x4), some (.int v833), none], [.int (x4 + 1), .ref am_SB, .ref 29], (mk B834), B834.kc, B834.kn)) rfl ?_
  obtain ⟨i835, h836, hr⟩ := bd_some hr
  refine x_sld rfl rfl h836 ?_
  obtain ⟨⟨v839, o838⟩, h837, hr⟩ := bd_some hr
  obtain ⟨B840, h841, hr⟩ := bd_some hr
  refine x_cW (wc_md (fun H hb hh hH => m_245 hb hh h837) h841) rfl rfl rfl rfl (am_recv_v ((rg_md (W := B834)).lt (i := 0) (show 0 < 17 by decide)) ((rg_md (W := B834)).at (i := 0) rfl) rfl) (by omega) ?_
  refine x_b 1 (S2 := (2306, [some (.ref am_SB), some (.ref 0), some (.ref 29), some (.ref 46), some (.int x4), some (.int v833), some (.int v839)], [], (mk B840), B840.kc, B840.kn)) rfl ?_
  refine x_ldan rfl rfl rfl ((rg_md (W := B840)).lt (i := 0) (show 0 < 17 by decide)) ?_
  obtain ⟨v843, h842, hr⟩ := bd_some hr
  refine x_cW (RnW.of0 (m_133 (rg_md (W := B840)) h842) ⟨rfl, rfl⟩) rfl rfl rfl rfl (am_recv_v ((rg_md (W := B840)).lt (i := 0) (show 0 < 17 by decide)) ((rg_md (W := B840)).at (i := 0) rfl) rfl) (by omega) ?_
  refine x_b 1 (S2 := (2312, [some (.ref am_SB), some (.ref 0), some (.ref 29), some (.ref 46), some (.int x4), some (.int v833), some (.int v839)], [.int v833, .int v843], (mk B840), B840.kc, B840.kn)) rfl ?_
  rcases ite_some hr with ⟨h844, hr⟩ | ⟨h844, hr⟩
  · refine x_ct rfl rfl (decide_eq_true h844) ?_
    refine x_b 1 (S2 := (2319, [some (.ref am_SB), some (.ref 0), some (.ref 29), some (.ref 46), some (.int x4), some (.int v833), some (.int v839)], [.int v833], (mk B840), B840.kc, B840.kn)) rfl ?_
    rcases ite_some hr with ⟨h845, hr⟩ | ⟨h845, hr⟩
    · refine x_zt rfl rfl (decide_eq_true h845) ?_
      refine x_fg (Lq.s (Lq.s (Lq.s (Lq.s (Lq.s (Lq.n (Lq.n Lq.nil))))))) ?_
      exact j_299_23_j2341 hd hr ka kx kr
    · refine x_zf rfl rfl (decide_eq_false h845) ?_
      refine x_ldan rfl rfl rfl ((rg_out (W := B840)).lt (i := 0) (show 0 < 1 by decide)) ?_
      refine x_b 1 (S2 := (2324, [some (.ref am_SB), some (.ref 0), some (.ref 29), some (.ref 46), some (.int x4), some (.int v833), some (.int v839)], [.int 0, .ref 46], (mk B840), B840.kc, B840.kn)) rfl ?_
      obtain ⟨i846, h847, hr⟩ := bd_some hr
      refine x_lald rfl rfl ((rg_out (W := B840)).lt (i := 0) (show 0 < 1 by decide)) ((rg_out (W := B840)).at (i := 0) rfl) h847 ?_
      refine x_b 1 (S2 := (2327, [some (.ref am_SB), some (.ref 0), some (.ref 29), some (.ref 46), some (.int x4), some (.int v833), some (.int v839)], [.int v839, .long (B840.out i846)], (mk B840), B840.kc, B840.kn)) rfl ?_
      rcases ite_some hr with ⟨h848, hr⟩ | ⟨h848, hr⟩
      · refine x_zt rfl rfl (decide_eq_true h848) ?_
        refine x_b 1 (S2 := (2335, [some (.ref am_SB), some (.ref 0), some (.ref 29), some (.ref 46), some (.int x4), some (.int v833), some (.int v839)], [.long 0, .long (B840.out i846)], (mk B840), B840.kc, B840.kn)) rfl ?_
        refine x_fg (Lq.s (Lq.s (Lq.s (Lq.s (Lq.s (Lq.n (Lq.n Lq.nil))))))) ?_
        exact j_299_23_j2335 hd hr ka kx kr
      · refine x_zf rfl rfl (decide_eq_false h848) ?_
        refine x_b 2 (S2 := (2335, [some (.ref am_SB), some (.ref 0), some (.ref 29), some (.ref 46), some (.int x4), some (.int v833), some (.int v839)], [.long 1, .long (B840.out i846)], (mk B840), B840.kc, B840.kn)) rfl ?_
        refine x_fg (Lq.s (Lq.s (Lq.s (Lq.s (Lq.s (Lq.n (Lq.n Lq.nil))))))) ?_
        exact j_299_23_j2335 hd hr ka kx kr
  · refine x_cf rfl rfl (decide_eq_false h844) ?_
    refine x_b 1 (S2 := (2316, [some (.ref am_SB), some (.ref 0), some (.ref 29), some (.ref 46), some (.int x4), some (.int v833), some (.int v839)], [.int 0], (mk B840), B840.kc, B840.kn)) rfl ?_
    rw [kr _ (Option.some.inj hr).symm]
    exact x_ret rfl rfl (am_ret_z (by decide))
def J_299_23_j2397 (L : Nat) (xs : Nat → Int32) (B : Wd) (x4 : Int32) : Option ((Int32 × Wd) ⊕ (Wd) ⊕ (Int32 × Wd)) :=
  J_299_23_j2564 L xs B x4
set_option maxRecDepth 200000 in
theorem j_299_23_j2397 {d : Nat} (hd : 11 ≤ d) {L : Nat} {xs : Nat → Int32} {res : ARe} {B : Wd} {x4 : Int32} {o : (Int32 × Wd) ⊕ (Wd) ⊕ (Int32 × Wd)} (hr : J_299_23_j2397 L xs B x4 = some o) (ka : ∀ s, o = .inl s → Ex d am_M299 (some (L, xs)) (P_299_23 L xs s) res) (kx : ∀ s, o = .inr (.inl s) → Ex d am_M299 (some (L, xs)) (PX_299_23 L xs s) res) (kr : ∀ r, o = .inr (.inr r) → res = (.inl (some (.int r.1)), mk r.2, Wd.kc r.2, Wd.kn r.2)) : Ex d am_M299 (some (L, xs)) (2397, [some (.ref am_SB), some (.ref 0), some (.ref 29), some (.ref 46), some (.int x4), none, none], [], (mk B), B.kc, B.kn) res := by
  delta J_299_23_j2397 at hr
  refine x_b 1 (S2 := (2564, [some (.ref am_SB), some (.ref 0), some (.ref 29), some (.ref 46), some (.int x4), none, none], [], (mk B), B.kc, B.kn)) rfl ?_
  refine x_fg (Lq.s (Lq.s (Lq.s (Lq.s (Lq.s (Lq.s (Lq.s Lq.nil))))))) ?_
  exact j_299_23_j2564 hd hr ka kx kr
def J_299_23_j2344 (L : Nat) (xs : Nat → Int32) (B : Wd) (x4 : Int32) : Option ((Int32 × Wd) ⊕ (Wd) ⊕ (Int32 × Wd)) :=
  (ix (x4 + 1) L).bind fun i853 =>
  (F_295 B (xs i853)).bind fun (v856, B857) =>
  (ix (x4 + 1) L).bind fun i858 =>
  (F_247 B857.md (xs i858)).bind fun (v862, o861) =>
  (some (B857.w_md o861)).bind fun B863 =>
  (F_133 B863.md).bind fun v866 =>
  if v866 = v856 then
    if ¬ v856 = 0 then
      J_299_23_j2397 L xs B863 x4
    else
      (ix 0 1).bind fun i869 =>
      if (lg_cmp (B863.out i869) v862.toInt64) = 0 then
        J_299_23_j2397 L xs B863 x4
      else
        some (.inr (.inr (0, B863)))
  else
    some (.inr (.inr (0, B863)))
set_option maxRecDepth 200000 in
theorem j_299_23_j2344 {d : Nat} (hd : 11 ≤ d) {L : Nat} {xs : Nat → Int32} {res : ARe} {B : Wd} {x4 : Int32} {o : (Int32 × Wd) ⊕ (Wd) ⊕ (Int32 × Wd)} (hr : J_299_23_j2344 L xs B x4 = some o) (ka : ∀ s, o = .inl s → Ex d am_M299 (some (L, xs)) (P_299_23 L xs s) res) (kx : ∀ s, o = .inr (.inl s) → Ex d am_M299 (some (L, xs)) (PX_299_23 L xs s) res) (kr : ∀ r, o = .inr (.inr r) → res = (.inl (some (.int r.1)), mk r.2, Wd.kc r.2, Wd.kn r.2)) : Ex d am_M299 (some (L, xs)) (2344, [some (.ref am_SB), some (.ref 0), some (.ref 29), some (.ref 46), some (.int x4), none, none], [], (mk B), B.kc, B.kn) res := by
  delta J_299_23_j2344 at hr
  refine x_ldan rfl rfl rfl ((rg_pp (W := B)).lt (i := 0) (show 0 < 1 by decide)) ?_
  refine x_ldsn rfl rfl rfl ?_
  refine x_b 3 (S2 := (2350, [some (.ref am_SB), some (.ref 0), some (.ref 29), some (.ref 46), some (.int x4), none, none], [.int (x4 + 1), .ref am_SB, .ref 0], (mk B), B.kc, B.kn)) rfl ?_
  obtain ⟨i853, h854, hr⟩ := bd_some hr
  refine x_sld rfl rfl h854 ?_
  refine x_ldan rfl rfl rfl ((rg_out (W := B)).lt (i := 0) (show 0 < 1 by decide)) ?_
  obtain ⟨⟨v856, B857⟩, h855, hr⟩ := bd_some hr
  refine x_cW (m_295 h855) rfl rfl rfl rfl rfl (by omega) ?_
  refine x_b 1 (S2 := (2357, [some (.ref am_SB), some (.ref 0), some (.ref 29), some (.ref 46), some (.int x4), some (.int v856), none], [], (mk B857), B857.kc, B857.kn)) rfl ?_
  refine x_ldan rfl rfl rfl ((rg_md (W := B857)).lt (i := 0) (show 0 < 17 by decide)) ?_
  refine x_ldsn rfl rfl rfl ?_
  refine x_b 3 (S2 := (2363, [some (.ref am_SB), some (.ref 0), some (.ref 29), some (.ref 46), some (.int x4), some (.int v856), none], [.int (x4 + 1), .ref am_SB, .ref 29], (mk B857), B857.kc, B857.kn)) rfl ?_
  obtain ⟨i858, h859, hr⟩ := bd_some hr
  refine x_sld rfl rfl h859 ?_
  obtain ⟨⟨v862, o861⟩, h860, hr⟩ := bd_some hr
  obtain ⟨B863, h864, hr⟩ := bd_some hr
  refine x_cW (wc_md (fun H hb hh hH => m_247 hb hh h860) h864) rfl rfl rfl rfl (am_recv_v ((rg_md (W := B857)).lt (i := 0) (show 0 < 17 by decide)) ((rg_md (W := B857)).at (i := 0) rfl) rfl) (by omega) ?_
  refine x_b 1 (S2 := (2369, [some (.ref am_SB), some (.ref 0), some (.ref 29), some (.ref 46), some (.int x4), some (.int v856), some (.int v862)], [], (mk B863), B863.kc, B863.kn)) rfl ?_
  refine x_ldan rfl rfl rfl ((rg_md (W := B863)).lt (i := 0) (show 0 < 17 by decide)) ?_
  obtain ⟨v866, h865, hr⟩ := bd_some hr
  refine x_cW (RnW.of0 (m_133 (rg_md (W := B863)) h865) ⟨rfl, rfl⟩) rfl rfl rfl rfl (am_recv_v ((rg_md (W := B863)).lt (i := 0) (show 0 < 17 by decide)) ((rg_md (W := B863)).at (i := 0) rfl) rfl) (by omega) ?_
  refine x_b 1 (S2 := (2375, [some (.ref am_SB), some (.ref 0), some (.ref 29), some (.ref 46), some (.int x4), some (.int v856), some (.int v862)], [.int v856, .int v866], (mk B863), B863.kc, B863.kn)) rfl ?_
  rcases ite_some hr with ⟨h867, hr⟩ | ⟨h867, hr⟩
  · refine x_ct rfl rfl (decide_eq_true h867) ?_
    refine x_b 1 (S2 := (2382, [some (.ref am_SB), some (.ref 0), some (.ref 29), some (.ref 46), some (.int x4), some (.int v856), some (.int v862)], [.int v856], (mk B863), B863.kc, B863.kn)) rfl ?_
    rcases ite_some hr with ⟨h868, hr⟩ | ⟨h868, hr⟩
    · refine x_zt rfl rfl (decide_eq_true h868) ?_
      refine x_fg (Lq.s (Lq.s (Lq.s (Lq.s (Lq.s (Lq.n (Lq.n Lq.nil))))))) ?_
      exact j_299_23_j2397 hd hr ka kx kr
    · refine x_zf rfl rfl (decide_eq_false h868) ?_
      refine x_ldan rfl rfl rfl ((rg_out (W := B863)).lt (i := 0) (show 0 < 1 by decide)) ?_
      refine x_b 1 (S2 := (2387, [some (.ref am_SB), some (.ref 0), some (.ref 29), some (.ref 46), some (.int x4), some (.int v856), some (.int v862)], [.int 0, .ref 46], (mk B863), B863.kc, B863.kn)) rfl ?_
      obtain ⟨i869, h870, hr⟩ := bd_some hr
      refine x_lald rfl rfl ((rg_out (W := B863)).lt (i := 0) (show 0 < 1 by decide)) ((rg_out (W := B863)).at (i := 0) rfl) h870 ?_
      refine x_b 3 (S2 := (2392, [some (.ref am_SB), some (.ref 0), some (.ref 29), some (.ref 46), some (.int x4), some (.int v856), some (.int v862)], [.int (lg_cmp (B863.out i869) v862.toInt64)], (mk B863), B863.kc, B863.kn)) rfl ?_
      rcases ite_some hr with ⟨h871, hr⟩ | ⟨h871, hr⟩
      · refine x_zt rfl rfl (decide_eq_true h871) ?_
        refine x_fg (Lq.s (Lq.s (Lq.s (Lq.s (Lq.s (Lq.n (Lq.n Lq.nil))))))) ?_
        exact j_299_23_j2397 hd hr ka kx kr
      · refine x_zf rfl rfl (decide_eq_false h871) ?_
        refine x_b 1 (S2 := (2396, [some (.ref am_SB), some (.ref 0), some (.ref 29), some (.ref 46), some (.int x4), some (.int v856), some (.int v862)], [.int 0], (mk B863), B863.kc, B863.kn)) rfl ?_
        rw [kr _ (Option.some.inj hr).symm]
        exact x_ret rfl rfl (am_ret_z (by decide))
  · refine x_cf rfl rfl (decide_eq_false h867) ?_
    refine x_b 1 (S2 := (2379, [some (.ref am_SB), some (.ref 0), some (.ref 29), some (.ref 46), some (.int x4), some (.int v856), some (.int v862)], [.int 0], (mk B863), B863.kc, B863.kn)) rfl ?_
    rw [kr _ (Option.some.inj hr).symm]
    exact x_ret rfl rfl (am_ret_z (by decide))
def J_299_23_j2453 (L : Nat) (xs : Nat → Int32) (B : Wd) (x4 : Int32) : Option ((Int32 × Wd) ⊕ (Wd) ⊕ (Int32 × Wd)) :=
  J_299_23_j2564 L xs B x4
set_option maxRecDepth 200000 in
theorem j_299_23_j2453 {d : Nat} (hd : 11 ≤ d) {L : Nat} {xs : Nat → Int32} {res : ARe} {B : Wd} {x4 : Int32} {o : (Int32 × Wd) ⊕ (Wd) ⊕ (Int32 × Wd)} (hr : J_299_23_j2453 L xs B x4 = some o) (ka : ∀ s, o = .inl s → Ex d am_M299 (some (L, xs)) (P_299_23 L xs s) res) (kx : ∀ s, o = .inr (.inl s) → Ex d am_M299 (some (L, xs)) (PX_299_23 L xs s) res) (kr : ∀ r, o = .inr (.inr r) → res = (.inl (some (.int r.1)), mk r.2, Wd.kc r.2, Wd.kn r.2)) : Ex d am_M299 (some (L, xs)) (2453, [some (.ref am_SB), some (.ref 0), some (.ref 29), some (.ref 46), some (.int x4), none, none], [], (mk B), B.kc, B.kn) res := by
  delta J_299_23_j2453 at hr
  refine x_b 1 (S2 := (2564, [some (.ref am_SB), some (.ref 0), some (.ref 29), some (.ref 46), some (.int x4), none, none], [], (mk B), B.kc, B.kn)) rfl ?_
  refine x_fg (Lq.s (Lq.s (Lq.s (Lq.s (Lq.s (Lq.s (Lq.s Lq.nil))))))) ?_
  exact j_299_23_j2564 hd hr ka kx kr
def J_299_23_j2400 (L : Nat) (xs : Nat → Int32) (B : Wd) (x4 : Int32) : Option ((Int32 × Wd) ⊕ (Wd) ⊕ (Int32 × Wd)) :=
  (ix (x4 + 1) L).bind fun i875 =>
  (F_296 B (xs i875)).bind fun (v878, B879) =>
  (ix (x4 + 1) L).bind fun i880 =>
  (F_249 B879.md (xs i880)).bind fun (v884, o883) =>
  (some (B879.w_md o883)).bind fun B885 =>
  (F_133 B885.md).bind fun v888 =>
  if v888 = v878 then
    if ¬ v878 = 0 then
      J_299_23_j2453 L xs B885 x4
    else
      (ix 0 1).bind fun i891 =>
      if (lg_cmp (B885.out i891) v884.toInt64) = 0 then
        J_299_23_j2453 L xs B885 x4
      else
        some (.inr (.inr (0, B885)))
  else
    some (.inr (.inr (0, B885)))
set_option maxRecDepth 200000 in
theorem j_299_23_j2400 {d : Nat} (hd : 11 ≤ d) {L : Nat} {xs : Nat → Int32} {res : ARe} {B : Wd} {x4 : Int32} {o : (Int32 × Wd) ⊕ (Wd) ⊕ (Int32 × Wd)} (hr : J_299_23_j2400 L xs B x4 = some o) (ka : ∀ s, o = .inl s → Ex d am_M299 (some (L, xs)) (P_299_23 L xs s) res) (kx : ∀ s, o = .inr (.inl s) → Ex d am_M299 (some (L, xs)) (PX_299_23 L xs s) res) (kr : ∀ r, o = .inr (.inr r) → res = (.inl (some (.int r.1)), mk r.2, Wd.kc r.2, Wd.kn r.2)) : Ex d am_M299 (some (L, xs)) (2400, [some (.ref am_SB), some (.ref 0), some (.ref 29), some (.ref 46), some (.int x4), none, none], [], (mk B), B.kc, B.kn) res := by
  delta J_299_23_j2400 at hr
  refine x_ldan rfl rfl rfl ((rg_pp (W := B)).lt (i := 0) (show 0 < 1 by decide)) ?_
  refine x_ldsn rfl rfl rfl ?_
  refine x_b 3 (S2 := (2406, [some (.ref am_SB), some (.ref 0), some (.ref 29), some (.ref 46), some (.int x4), none, none], [.int (x4 + 1), .ref am_SB, .ref 0], (mk B), B.kc, B.kn)) rfl ?_
  obtain ⟨i875, h876, hr⟩ := bd_some hr
  refine x_sld rfl rfl h876 ?_
  refine x_ldan rfl rfl rfl ((rg_out (W := B)).lt (i := 0) (show 0 < 1 by decide)) ?_
  obtain ⟨⟨v878, B879⟩, h877, hr⟩ := bd_some hr
  refine x_cW (m_296 h877) rfl rfl rfl rfl rfl (by omega) ?_
  refine x_b 1 (S2 := (2413, [some (.ref am_SB), some (.ref 0), some (.ref 29), some (.ref 46), some (.int x4), some (.int v878), none], [], (mk B879), B879.kc, B879.kn)) rfl ?_
  refine x_ldan rfl rfl rfl ((rg_md (W := B879)).lt (i := 0) (show 0 < 17 by decide)) ?_
  refine x_ldsn rfl rfl rfl ?_
  refine x_b 3 (S2 := (2419, [some (.ref am_SB), some (.ref 0), some (.ref 29), some (.ref 46), some (.int x4), some (.int v878), none], [.int (x4 + 1), .ref am_SB, .ref 29], (mk B879), B879.kc, B879.kn)) rfl ?_
  obtain ⟨i880, h881, hr⟩ := bd_some hr
  refine x_sld rfl rfl h881 ?_
  obtain ⟨⟨v884, o883⟩, h882, hr⟩ := bd_some hr
  obtain ⟨B885, h886, hr⟩ := bd_some hr
  refine x_cW (wc_md (fun H hb hh hH => m_249 hb hh h882) h886) rfl rfl rfl rfl (am_recv_v ((rg_md (W := B879)).lt (i := 0) (show 0 < 17 by decide)) ((rg_md (W := B879)).at (i := 0) rfl) rfl) (by omega) ?_
  refine x_b 1 (S2 := (2425, [some (.ref am_SB), some (.ref 0), some (.ref 29), some (.ref 46), some (.int x4), some (.int v878), some (.int v884)], [], (mk B885), B885.kc, B885.kn)) rfl ?_
  refine x_ldan rfl rfl rfl ((rg_md (W := B885)).lt (i := 0) (show 0 < 17 by decide)) ?_
  obtain ⟨v888, h887, hr⟩ := bd_some hr
  refine x_cW (RnW.of0 (m_133 (rg_md (W := B885)) h887) ⟨rfl, rfl⟩) rfl rfl rfl rfl (am_recv_v ((rg_md (W := B885)).lt (i := 0) (show 0 < 17 by decide)) ((rg_md (W := B885)).at (i := 0) rfl) rfl) (by omega) ?_
  refine x_b 1 (S2 := (2431, [some (.ref am_SB), some (.ref 0), some (.ref 29), some (.ref 46), some (.int x4), some (.int v878), some (.int v884)], [.int v878, .int v888], (mk B885), B885.kc, B885.kn)) rfl ?_
  rcases ite_some hr with ⟨h889, hr⟩ | ⟨h889, hr⟩
  · refine x_ct rfl rfl (decide_eq_true h889) ?_
    refine x_b 1 (S2 := (2438, [some (.ref am_SB), some (.ref 0), some (.ref 29), some (.ref 46), some (.int x4), some (.int v878), some (.int v884)], [.int v878], (mk B885), B885.kc, B885.kn)) rfl ?_
    rcases ite_some hr with ⟨h890, hr⟩ | ⟨h890, hr⟩
    · refine x_zt rfl rfl (decide_eq_true h890) ?_
      refine x_fg (Lq.s (Lq.s (Lq.s (Lq.s (Lq.s (Lq.n (Lq.n Lq.nil))))))) ?_
      exact j_299_23_j2453 hd hr ka kx kr
    · refine x_zf rfl rfl (decide_eq_false h890) ?_
      refine x_ldan rfl rfl rfl ((rg_out (W := B885)).lt (i := 0) (show 0 < 1 by decide)) ?_
      refine x_b 1 (S2 := (2443, [some (.ref am_SB), some (.ref 0), some (.ref 29), some (.ref 46), some (.int x4), some (.int v878), some (.int v884)], [.int 0, .ref 46], (mk B885), B885.kc, B885.kn)) rfl ?_
      obtain ⟨i891, h892, hr⟩ := bd_some hr
      refine x_lald rfl rfl ((rg_out (W := B885)).lt (i := 0) (show 0 < 1 by decide)) ((rg_out (W := B885)).at (i := 0) rfl) h892 ?_
      refine x_b 3 (S2 := (2448, [some (.ref am_SB), some (.ref 0), some (.ref 29), some (.ref 46), some (.int x4), some (.int v878), some (.int v884)], [.int (lg_cmp (B885.out i891) v884.toInt64)], (mk B885), B885.kc, B885.kn)) rfl ?_
      rcases ite_some hr with ⟨h893, hr⟩ | ⟨h893, hr⟩
      · refine x_zt rfl rfl (decide_eq_true h893) ?_
        refine x_fg (Lq.s (Lq.s (Lq.s (Lq.s (Lq.s (Lq.n (Lq.n Lq.nil))))))) ?_
        exact j_299_23_j2453 hd hr ka kx kr
      · refine x_zf rfl rfl (decide_eq_false h893) ?_
        refine x_b 1 (S2 := (2452, [some (.ref am_SB), some (.ref 0), some (.ref 29), some (.ref 46), some (.int x4), some (.int v878), some (.int v884)], [.int 0], (mk B885), B885.kc, B885.kn)) rfl ?_
        rw [kr _ (Option.some.inj hr).symm]
        exact x_ret rfl rfl (am_ret_z (by decide))
  · refine x_cf rfl rfl (decide_eq_false h889) ?_
    refine x_b 1 (S2 := (2435, [some (.ref am_SB), some (.ref 0), some (.ref 29), some (.ref 46), some (.int x4), some (.int v878), some (.int v884)], [.int 0], (mk B885), B885.kc, B885.kn)) rfl ?_
    rw [kr _ (Option.some.inj hr).symm]
    exact x_ret rfl rfl (am_ret_z (by decide))
def J_299_23_j2456 (L : Nat) (xs : Nat → Int32) (B : Wd) (x4 : Int32) : Option ((Int32 × Wd) ⊕ (Wd) ⊕ (Int32 × Wd)) :=
  (F_121 B).bind fun v898 =>
  (F_250 B.md).bind fun (v901, o900) =>
  (some (B.w_md o900)).bind fun B902 =>
  if v898 = v901 then
    J_299_23_j2564 L xs B902 x4
  else
    some (.inr (.inr (0, B902)))
set_option maxRecDepth 200000 in
theorem j_299_23_j2456 {d : Nat} (hd : 11 ≤ d) {L : Nat} {xs : Nat → Int32} {res : ARe} {B : Wd} {x4 : Int32} {o : (Int32 × Wd) ⊕ (Wd) ⊕ (Int32 × Wd)} (hr : J_299_23_j2456 L xs B x4 = some o) (ka : ∀ s, o = .inl s → Ex d am_M299 (some (L, xs)) (P_299_23 L xs s) res) (kx : ∀ s, o = .inr (.inl s) → Ex d am_M299 (some (L, xs)) (PX_299_23 L xs s) res) (kr : ∀ r, o = .inr (.inr r) → res = (.inl (some (.int r.1)), mk r.2, Wd.kc r.2, Wd.kn r.2)) : Ex d am_M299 (some (L, xs)) (2456, [some (.ref am_SB), some (.ref 0), some (.ref 29), some (.ref 46), some (.int x4), none, none], [], (mk B), B.kc, B.kn) res := by
  delta J_299_23_j2456 at hr
  refine x_ldan rfl rfl rfl ((rg_pp (W := B)).lt (i := 0) (show 0 < 1 by decide)) ?_
  obtain ⟨v898, h897, hr⟩ := bd_some hr
  refine x_cW (m_121 h897) rfl rfl rfl rfl (am_recv_v ((rg_pp (W := B)).lt (i := 0) (show 0 < 1 by decide)) ((rg_pp (W := B)).at (i := 0) rfl) rfl) (by omega) ?_
  refine x_ldan rfl rfl rfl ((rg_md (W := B)).lt (i := 0) (show 0 < 17 by decide)) ?_
  obtain ⟨⟨v901, o900⟩, h899, hr⟩ := bd_some hr
  obtain ⟨B902, h903, hr⟩ := bd_some hr
  refine x_cW (wc_md (fun H hb hh hH => m_250 hb hh h899) h903) rfl rfl rfl rfl (am_recv_v ((rg_md (W := B)).lt (i := 0) (show 0 < 17 by decide)) ((rg_md (W := B)).at (i := 0) rfl) rfl) (by omega) ?_
  rcases ite_some hr with ⟨h904, hr⟩ | ⟨h904, hr⟩
  · refine x_ct rfl rfl (decide_eq_true h904) ?_
    refine x_fg (Lq.s (Lq.s (Lq.s (Lq.s (Lq.s (Lq.s (Lq.s Lq.nil))))))) ?_
    exact j_299_23_j2564 hd hr ka kx kr
  · refine x_cf rfl rfl (decide_eq_false h904) ?_
    refine x_b 1 (S2 := (2468, [some (.ref am_SB), some (.ref 0), some (.ref 29), some (.ref 46), some (.int x4), none, none], [.int 0], (mk B902), B902.kc, B902.kn)) rfl ?_
    rw [kr _ (Option.some.inj hr).symm]
    exact x_ret rfl rfl (am_ret_z (by decide))
def J_299_23_j2517 (L : Nat) (xs : Nat → Int32) (B : Wd) (x4 : Int32) : Option ((Int32 × Wd) ⊕ (Wd) ⊕ (Int32 × Wd)) :=
  J_299_23_j2564 L xs B x4
set_option maxRecDepth 200000 in
theorem j_299_23_j2517 {d : Nat} (hd : 11 ≤ d) {L : Nat} {xs : Nat → Int32} {res : ARe} {B : Wd} {x4 : Int32} {o : (Int32 × Wd) ⊕ (Wd) ⊕ (Int32 × Wd)} (hr : J_299_23_j2517 L xs B x4 = some o) (ka : ∀ s, o = .inl s → Ex d am_M299 (some (L, xs)) (P_299_23 L xs s) res) (kx : ∀ s, o = .inr (.inl s) → Ex d am_M299 (some (L, xs)) (PX_299_23 L xs s) res) (kr : ∀ r, o = .inr (.inr r) → res = (.inl (some (.int r.1)), mk r.2, Wd.kc r.2, Wd.kn r.2)) : Ex d am_M299 (some (L, xs)) (2517, [some (.ref am_SB), some (.ref 0), some (.ref 29), some (.ref 46), some (.int x4), none, none], [], (mk B), B.kc, B.kn) res := by
  delta J_299_23_j2517 at hr
  refine x_b 1 (S2 := (2564, [some (.ref am_SB), some (.ref 0), some (.ref 29), some (.ref 46), some (.int x4), none, none], [], (mk B), B.kc, B.kn)) rfl ?_
  refine x_fg (Lq.s (Lq.s (Lq.s (Lq.s (Lq.s (Lq.s (Lq.s Lq.nil))))))) ?_
  exact j_299_23_j2564 hd hr ka kx kr
def J_299_23_j2511 (L : Nat) (xs : Nat → Int32) (B : Wd) (x4 : Int32) (t0 : Int64) (t1 : Int64) : Option ((Int32 × Wd) ⊕ (Wd) ⊕ (Int32 × Wd)) :=
  if (lg_cmp t1 t0) = 0 then
    J_299_23_j2517 L xs B x4
  else
    some (.inr (.inr (0, B)))
set_option maxRecDepth 200000 in
theorem j_299_23_j2511 {d : Nat} (hd : 11 ≤ d) {L : Nat} {xs : Nat → Int32} {res : ARe} {B : Wd} {x4 : Int32} {t0 : Int64} {t1 : Int64} {o : (Int32 × Wd) ⊕ (Wd) ⊕ (Int32 × Wd)} (hr : J_299_23_j2511 L xs B x4 t0 t1 = some o) (ka : ∀ s, o = .inl s → Ex d am_M299 (some (L, xs)) (P_299_23 L xs s) res) (kx : ∀ s, o = .inr (.inl s) → Ex d am_M299 (some (L, xs)) (PX_299_23 L xs s) res) (kr : ∀ r, o = .inr (.inr r) → res = (.inl (some (.int r.1)), mk r.2, Wd.kc r.2, Wd.kn r.2)) : Ex d am_M299 (some (L, xs)) (2511, [some (.ref am_SB), some (.ref 0), some (.ref 29), some (.ref 46), some (.int x4), none, none], [.long t0, .long t1], (mk B), B.kc, B.kn) res := by
  delta J_299_23_j2511 at hr
  refine x_b 1 (S2 := (2512, [some (.ref am_SB), some (.ref 0), some (.ref 29), some (.ref 46), some (.int x4), none, none], [.int (lg_cmp t1 t0)], (mk B), B.kc, B.kn)) rfl ?_
  rcases ite_some hr with ⟨h922, hr⟩ | ⟨h922, hr⟩
  · refine x_zt rfl rfl (decide_eq_true h922) ?_
    refine x_fg (Lq.s (Lq.s (Lq.s (Lq.s (Lq.s (Lq.s (Lq.s Lq.nil))))))) ?_
    exact j_299_23_j2517 hd hr ka kx kr
  · refine x_zf rfl rfl (decide_eq_false h922) ?_
    refine x_b 1 (S2 := (2516, [some (.ref am_SB), some (.ref 0), some (.ref 29), some (.ref 46), some (.int x4), none, none], [.int 0], (mk B), B.kc, B.kn)) rfl ?_
    rw [kr _ (Option.some.inj hr).symm]
    exact x_ret rfl rfl (am_ret_z (by decide))
def J_299_23_j2469 (L : Nat) (xs : Nat → Int32) (B : Wd) (x4 : Int32) : Option ((Int32 × Wd) ⊕ (Wd) ⊕ (Int32 × Wd)) :=
  (F_297 B).bind fun (v908, B909) =>
  (F_251 B909.md).bind fun (v912, o911) =>
  (some (B909.w_md o911)).bind fun B913 =>
  (F_133 B913.md).bind fun v916 =>
  if v916 = v908 then
    if ¬ v908 = 0 then
      J_299_23_j2517 L xs B913 x4
    else
      (ix 0 1).bind fun i919 =>
      if v912 = 0 then
        J_299_23_j2511 L xs B913 x4 0 (B913.out i919)
      else
        J_299_23_j2511 L xs B913 x4 1 (B913.out i919)
  else
    some (.inr (.inr (0, B913)))
set_option maxRecDepth 200000 in
theorem j_299_23_j2469 {d : Nat} (hd : 11 ≤ d) {L : Nat} {xs : Nat → Int32} {res : ARe} {B : Wd} {x4 : Int32} {o : (Int32 × Wd) ⊕ (Wd) ⊕ (Int32 × Wd)} (hr : J_299_23_j2469 L xs B x4 = some o) (ka : ∀ s, o = .inl s → Ex d am_M299 (some (L, xs)) (P_299_23 L xs s) res) (kx : ∀ s, o = .inr (.inl s) → Ex d am_M299 (some (L, xs)) (PX_299_23 L xs s) res) (kr : ∀ r, o = .inr (.inr r) → res = (.inl (some (.int r.1)), mk r.2, Wd.kc r.2, Wd.kn r.2)) : Ex d am_M299 (some (L, xs)) (2469, [some (.ref am_SB), some (.ref 0), some (.ref 29), some (.ref 46), some (.int x4), none, none], [], (mk B), B.kc, B.kn) res := by
  delta J_299_23_j2469 at hr
  refine x_ldan rfl rfl rfl ((rg_pp (W := B)).lt (i := 0) (show 0 < 1 by decide)) ?_
  refine x_ldan rfl rfl rfl ((rg_out (W := B)).lt (i := 0) (show 0 < 1 by decide)) ?_
  obtain ⟨⟨v908, B909⟩, h907, hr⟩ := bd_some hr
  refine x_cW (m_297 h907) rfl rfl rfl rfl rfl (by omega) ?_
  refine x_b 1 (S2 := (2476, [some (.ref am_SB), some (.ref 0), some (.ref 29), some (.ref 46), some (.int x4), some (.int v908), none], [], (mk B909), B909.kc, B909.kn)) rfl ?_
  refine x_ldan rfl rfl rfl ((rg_md (W := B909)).lt (i := 0) (show 0 < 17 by decide)) ?_
  obtain ⟨⟨v912, o911⟩, h910, hr⟩ := bd_some hr
  obtain ⟨B913, h914, hr⟩ := bd_some hr
  refine x_cW (wc_md (fun H hb hh hH => m_251 hb hh h910) h914) rfl rfl rfl rfl (am_recv_v ((rg_md (W := B909)).lt (i := 0) (show 0 < 17 by decide)) ((rg_md (W := B909)).at (i := 0) rfl) rfl) (by omega) ?_
  refine x_b 1 (S2 := (2482, [some (.ref am_SB), some (.ref 0), some (.ref 29), some (.ref 46), some (.int x4), some (.int v908), some (.int v912)], [], (mk B913), B913.kc, B913.kn)) rfl ?_
  refine x_ldan rfl rfl rfl ((rg_md (W := B913)).lt (i := 0) (show 0 < 17 by decide)) ?_
  obtain ⟨v916, h915, hr⟩ := bd_some hr
  refine x_cW (RnW.of0 (m_133 (rg_md (W := B913)) h915) ⟨rfl, rfl⟩) rfl rfl rfl rfl (am_recv_v ((rg_md (W := B913)).lt (i := 0) (show 0 < 17 by decide)) ((rg_md (W := B913)).at (i := 0) rfl) rfl) (by omega) ?_
  refine x_b 1 (S2 := (2488, [some (.ref am_SB), some (.ref 0), some (.ref 29), some (.ref 46), some (.int x4), some (.int v908), some (.int v912)], [.int v908, .int v916], (mk B913), B913.kc, B913.kn)) rfl ?_
  rcases ite_some hr with ⟨h917, hr⟩ | ⟨h917, hr⟩
  · refine x_ct rfl rfl (decide_eq_true h917) ?_
    refine x_b 1 (S2 := (2495, [some (.ref am_SB), some (.ref 0), some (.ref 29), some (.ref 46), some (.int x4), some (.int v908), some (.int v912)], [.int v908], (mk B913), B913.kc, B913.kn)) rfl ?_
    rcases ite_some hr with ⟨h918, hr⟩ | ⟨h918, hr⟩
    · refine x_zt rfl rfl (decide_eq_true h918) ?_
      refine x_fg (Lq.s (Lq.s (Lq.s (Lq.s (Lq.s (Lq.n (Lq.n Lq.nil))))))) ?_
      exact j_299_23_j2517 hd hr ka kx kr
    · refine x_zf rfl rfl (decide_eq_false h918) ?_
      refine x_ldan rfl rfl rfl ((rg_out (W := B913)).lt (i := 0) (show 0 < 1 by decide)) ?_
      refine x_b 1 (S2 := (2500, [some (.ref am_SB), some (.ref 0), some (.ref 29), some (.ref 46), some (.int x4), some (.int v908), some (.int v912)], [.int 0, .ref 46], (mk B913), B913.kc, B913.kn)) rfl ?_
      obtain ⟨i919, h920, hr⟩ := bd_some hr
      refine x_lald rfl rfl ((rg_out (W := B913)).lt (i := 0) (show 0 < 1 by decide)) ((rg_out (W := B913)).at (i := 0) rfl) h920 ?_
      refine x_b 1 (S2 := (2503, [some (.ref am_SB), some (.ref 0), some (.ref 29), some (.ref 46), some (.int x4), some (.int v908), some (.int v912)], [.int v912, .long (B913.out i919)], (mk B913), B913.kc, B913.kn)) rfl ?_
      rcases ite_some hr with ⟨h921, hr⟩ | ⟨h921, hr⟩
      · refine x_zt rfl rfl (decide_eq_true h921) ?_
        refine x_b 1 (S2 := (2511, [some (.ref am_SB), some (.ref 0), some (.ref 29), some (.ref 46), some (.int x4), some (.int v908), some (.int v912)], [.long 0, .long (B913.out i919)], (mk B913), B913.kc, B913.kn)) rfl ?_
        refine x_fg (Lq.s (Lq.s (Lq.s (Lq.s (Lq.s (Lq.n (Lq.n Lq.nil))))))) ?_
        exact j_299_23_j2511 hd hr ka kx kr
      · refine x_zf rfl rfl (decide_eq_false h921) ?_
        refine x_b 2 (S2 := (2511, [some (.ref am_SB), some (.ref 0), some (.ref 29), some (.ref 46), some (.int x4), some (.int v908), some (.int v912)], [.long 1, .long (B913.out i919)], (mk B913), B913.kc, B913.kn)) rfl ?_
        refine x_fg (Lq.s (Lq.s (Lq.s (Lq.s (Lq.s (Lq.n (Lq.n Lq.nil))))))) ?_
        exact j_299_23_j2511 hd hr ka kx kr
  · refine x_cf rfl rfl (decide_eq_false h917) ?_
    refine x_b 1 (S2 := (2492, [some (.ref am_SB), some (.ref 0), some (.ref 29), some (.ref 46), some (.int x4), some (.int v908), some (.int v912)], [.int 0], (mk B913), B913.kc, B913.kn)) rfl ?_
    rw [kr _ (Option.some.inj hr).symm]
    exact x_ret rfl rfl (am_ret_z (by decide))
def J_299_23_j2561 (L : Nat) (xs : Nat → Int32) (B : Wd) (x4 : Int32) : Option ((Int32 × Wd) ⊕ (Wd) ⊕ (Int32 × Wd)) :=
  J_299_23_j2564 L xs B x4
set_option maxRecDepth 200000 in
theorem j_299_23_j2561 {d : Nat} (hd : 11 ≤ d) {L : Nat} {xs : Nat → Int32} {res : ARe} {B : Wd} {x4 : Int32} {o : (Int32 × Wd) ⊕ (Wd) ⊕ (Int32 × Wd)} (hr : J_299_23_j2561 L xs B x4 = some o) (ka : ∀ s, o = .inl s → Ex d am_M299 (some (L, xs)) (P_299_23 L xs s) res) (kx : ∀ s, o = .inr (.inl s) → Ex d am_M299 (some (L, xs)) (PX_299_23 L xs s) res) (kr : ∀ r, o = .inr (.inr r) → res = (.inl (some (.int r.1)), mk r.2, Wd.kc r.2, Wd.kn r.2)) : Ex d am_M299 (some (L, xs)) (2561, [some (.ref am_SB), some (.ref 0), some (.ref 29), some (.ref 46), some (.int x4), none, none], [], (mk B), B.kc, B.kn) res := by
  delta J_299_23_j2561 at hr
  refine x_b 1 (S2 := (2564, [some (.ref am_SB), some (.ref 0), some (.ref 29), some (.ref 46), some (.int x4), none, none], [], (mk B), B.kc, B.kn)) rfl ?_
  refine x_fg (Lq.s (Lq.s (Lq.s (Lq.s (Lq.s (Lq.s (Lq.s Lq.nil))))))) ?_
  exact j_299_23_j2564 hd hr ka kx kr
def J_299_23_j2520 (L : Nat) (xs : Nat → Int32) (B : Wd) (x4 : Int32) : Option ((Int32 × Wd) ⊕ (Wd) ⊕ (Int32 × Wd)) :=
  (F_298 B).bind fun (v927, B928) =>
  (F_252 B928.md).bind fun (v931, o930) =>
  (some (B928.w_md o930)).bind fun B932 =>
  (F_133 B932.md).bind fun v935 =>
  if v935 = v927 then
    if ¬ v927 = 0 then
      J_299_23_j2561 L xs B932 x4
    else
      (ix 0 1).bind fun i938 =>
      if (lg_cmp (B932.out i938) v931.toInt64) = 0 then
        J_299_23_j2561 L xs B932 x4
      else
        some (.inr (.inr (0, B932)))
  else
    some (.inr (.inr (0, B932)))
set_option maxRecDepth 200000 in
theorem j_299_23_j2520 {d : Nat} (hd : 11 ≤ d) {L : Nat} {xs : Nat → Int32} {res : ARe} {B : Wd} {x4 : Int32} {o : (Int32 × Wd) ⊕ (Wd) ⊕ (Int32 × Wd)} (hr : J_299_23_j2520 L xs B x4 = some o) (ka : ∀ s, o = .inl s → Ex d am_M299 (some (L, xs)) (P_299_23 L xs s) res) (kx : ∀ s, o = .inr (.inl s) → Ex d am_M299 (some (L, xs)) (PX_299_23 L xs s) res) (kr : ∀ r, o = .inr (.inr r) → res = (.inl (some (.int r.1)), mk r.2, Wd.kc r.2, Wd.kn r.2)) : Ex d am_M299 (some (L, xs)) (2520, [some (.ref am_SB), some (.ref 0), some (.ref 29), some (.ref 46), some (.int x4), none, none], [], (mk B), B.kc, B.kn) res := by
  delta J_299_23_j2520 at hr
  refine x_ldan rfl rfl rfl ((rg_pp (W := B)).lt (i := 0) (show 0 < 1 by decide)) ?_
  refine x_ldan rfl rfl rfl ((rg_out (W := B)).lt (i := 0) (show 0 < 1 by decide)) ?_
  obtain ⟨⟨v927, B928⟩, h926, hr⟩ := bd_some hr
  refine x_cW (m_298 h926) rfl rfl rfl rfl rfl (by omega) ?_
  refine x_b 1 (S2 := (2527, [some (.ref am_SB), some (.ref 0), some (.ref 29), some (.ref 46), some (.int x4), some (.int v927), none], [], (mk B928), B928.kc, B928.kn)) rfl ?_
  refine x_ldan rfl rfl rfl ((rg_md (W := B928)).lt (i := 0) (show 0 < 17 by decide)) ?_
  obtain ⟨⟨v931, o930⟩, h929, hr⟩ := bd_some hr
  obtain ⟨B932, h933, hr⟩ := bd_some hr
  refine x_cW (wc_md (fun H hb hh hH => m_252 hb hh h929) h933) rfl rfl rfl rfl (am_recv_v ((rg_md (W := B928)).lt (i := 0) (show 0 < 17 by decide)) ((rg_md (W := B928)).at (i := 0) rfl) rfl) (by omega) ?_
  refine x_b 1 (S2 := (2533, [some (.ref am_SB), some (.ref 0), some (.ref 29), some (.ref 46), some (.int x4), some (.int v927), some (.int v931)], [], (mk B932), B932.kc, B932.kn)) rfl ?_
  refine x_ldan rfl rfl rfl ((rg_md (W := B932)).lt (i := 0) (show 0 < 17 by decide)) ?_
  obtain ⟨v935, h934, hr⟩ := bd_some hr
  refine x_cW (RnW.of0 (m_133 (rg_md (W := B932)) h934) ⟨rfl, rfl⟩) rfl rfl rfl rfl (am_recv_v ((rg_md (W := B932)).lt (i := 0) (show 0 < 17 by decide)) ((rg_md (W := B932)).at (i := 0) rfl) rfl) (by omega) ?_
  refine x_b 1 (S2 := (2539, [some (.ref am_SB), some (.ref 0), some (.ref 29), some (.ref 46), some (.int x4), some (.int v927), some (.int v931)], [.int v927, .int v935], (mk B932), B932.kc, B932.kn)) rfl ?_
  rcases ite_some hr with ⟨h936, hr⟩ | ⟨h936, hr⟩
  · refine x_ct rfl rfl (decide_eq_true h936) ?_
    refine x_b 1 (S2 := (2546, [some (.ref am_SB), some (.ref 0), some (.ref 29), some (.ref 46), some (.int x4), some (.int v927), some (.int v931)], [.int v927], (mk B932), B932.kc, B932.kn)) rfl ?_
    rcases ite_some hr with ⟨h937, hr⟩ | ⟨h937, hr⟩
    · refine x_zt rfl rfl (decide_eq_true h937) ?_
      refine x_fg (Lq.s (Lq.s (Lq.s (Lq.s (Lq.s (Lq.n (Lq.n Lq.nil))))))) ?_
      exact j_299_23_j2561 hd hr ka kx kr
    · refine x_zf rfl rfl (decide_eq_false h937) ?_
      refine x_ldan rfl rfl rfl ((rg_out (W := B932)).lt (i := 0) (show 0 < 1 by decide)) ?_
      refine x_b 1 (S2 := (2551, [some (.ref am_SB), some (.ref 0), some (.ref 29), some (.ref 46), some (.int x4), some (.int v927), some (.int v931)], [.int 0, .ref 46], (mk B932), B932.kc, B932.kn)) rfl ?_
      obtain ⟨i938, h939, hr⟩ := bd_some hr
      refine x_lald rfl rfl ((rg_out (W := B932)).lt (i := 0) (show 0 < 1 by decide)) ((rg_out (W := B932)).at (i := 0) rfl) h939 ?_
      refine x_b 3 (S2 := (2556, [some (.ref am_SB), some (.ref 0), some (.ref 29), some (.ref 46), some (.int x4), some (.int v927), some (.int v931)], [.int (lg_cmp (B932.out i938) v931.toInt64)], (mk B932), B932.kc, B932.kn)) rfl ?_
      rcases ite_some hr with ⟨h940, hr⟩ | ⟨h940, hr⟩
      · refine x_zt rfl rfl (decide_eq_true h940) ?_
        refine x_fg (Lq.s (Lq.s (Lq.s (Lq.s (Lq.s (Lq.n (Lq.n Lq.nil))))))) ?_
        exact j_299_23_j2561 hd hr ka kx kr
      · refine x_zf rfl rfl (decide_eq_false h940) ?_
        refine x_b 1 (S2 := (2560, [some (.ref am_SB), some (.ref 0), some (.ref 29), some (.ref 46), some (.int x4), some (.int v927), some (.int v931)], [.int 0], (mk B932), B932.kc, B932.kn)) rfl ?_
        rw [kr _ (Option.some.inj hr).symm]
        exact x_ret rfl rfl (am_ret_z (by decide))
  · refine x_cf rfl rfl (decide_eq_false h936) ?_
    refine x_b 1 (S2 := (2543, [some (.ref am_SB), some (.ref 0), some (.ref 29), some (.ref 46), some (.int x4), some (.int v927), some (.int v931)], [.int 0], (mk B932), B932.kc, B932.kn)) rfl ?_
    rw [kr _ (Option.some.inj hr).symm]
    exact x_ret rfl rfl (am_ret_z (by decide))
def G_299_23 (L : Nat) (xs : Nat → Int32) (s : Int32 × Wd) : Option ((Int32 × Wd) ⊕ (Wd) ⊕ (Int32 × Wd)) := 
  match s with
  | (x4, B) =>
    if ((Int32.ofNat L) - 6) < x4 then
      some (.inr (.inl B))
    else
      (ix x4 L).bind fun i2 =>
      if ((xs i2) &&& 63) = 0 then
        J_299_23_j232 L xs B x4
      else if ((xs i2) &&& 63) = 1 then
        J_299_23_j336 L xs B x4
      else if ((xs i2) &&& 63) = 2 then
        J_299_23_j392 L xs B x4
      else if ((xs i2) &&& 63) = 3 then
        J_299_23_j405 L xs B x4
      else if ((xs i2) &&& 63) = 4 then
        J_299_23_j449 L xs B x4
      else if ((xs i2) &&& 63) = 5 then
        J_299_23_j517 L xs B x4
      else if ((xs i2) &&& 63) = 6 then
        J_299_23_j585 L xs B x4
      else if ((xs i2) &&& 63) = 7 then
        J_299_23_j653 L xs B x4
      else if ((xs i2) &&& 63) = 8 then
        J_299_23_j721 L xs B x4
      else if ((xs i2) &&& 63) = 9 then
        J_299_23_j789 L xs B x4
      else if ((xs i2) &&& 63) = 10 then
        J_299_23_j845 L xs B x4
      else if ((xs i2) &&& 63) = 11 then
        J_299_23_j901 L xs B x4
      else if ((xs i2) &&& 63) = 12 then
        J_299_23_j993 L xs B x4
      else if ((xs i2) &&& 63) = 13 then
        J_299_23_j1049 L xs B x4
      else if ((xs i2) &&& 63) = 14 then
        J_299_23_j1093 L xs B x4
      else if ((xs i2) &&& 63) = 15 then
        J_299_23_j1106 L xs B x4
      else if ((xs i2) &&& 63) = 16 then
        J_299_23_j1119 L xs B x4
      else if ((xs i2) &&& 63) = 17 then
        J_299_23_j1163 L xs B x4
      else if ((xs i2) &&& 63) = 18 then
        J_299_23_j1176 L xs B x4
      else if ((xs i2) &&& 63) = 19 then
        J_299_23_j1232 L xs B x4
      else if ((xs i2) &&& 63) = 20 then
        J_299_23_j1307 L xs B x4
      else if ((xs i2) &&& 63) = 21 then
        J_299_23_j1375 L xs B x4
      else if ((xs i2) &&& 63) = 22 then
        J_299_23_j1431 L xs B x4
      else if ((xs i2) &&& 63) = 23 then
        J_299_23_j1487 L xs B x4
      else if ((xs i2) &&& 63) = 24 then
        J_299_23_j1543 L xs B x4
      else if ((xs i2) &&& 63) = 25 then
        J_299_23_j1606 L xs B x4
      else if ((xs i2) &&& 63) = 26 then
        J_299_23_j1619 L xs B x4
      else if ((xs i2) &&& 63) = 27 then
        J_299_23_j1675 L xs B x4
      else if ((xs i2) &&& 63) = 28 then
        J_299_23_j1731 L xs B x4
      else if ((xs i2) &&& 63) = 29 then
        J_299_23_j1744 L xs B x4
      else if ((xs i2) &&& 63) = 30 then
        J_299_23_j1800 L xs B x4
      else if ((xs i2) &&& 63) = 31 then
        J_299_23_j1813 L xs B x4
      else if ((xs i2) &&& 63) = 32 then
        J_299_23_j1881 L xs B x4
      else if ((xs i2) &&& 63) = 33 then
        J_299_23_j1937 L xs B x4
      else if ((xs i2) &&& 63) = 34 then
        J_299_23_j2005 L xs B x4
      else if ((xs i2) &&& 63) = 35 then
        J_299_23_j2061 L xs B x4
      else if ((xs i2) &&& 63) = 36 then
        J_299_23_j2141 L xs B x4
      else if ((xs i2) &&& 63) = 37 then
        J_299_23_j2197 L xs B x4
      else if ((xs i2) &&& 63) = 38 then
        J_299_23_j2281 L xs B x4
      else if ((xs i2) &&& 63) = 39 then
        J_299_23_j2344 L xs B x4
      else if ((xs i2) &&& 63) = 40 then
        J_299_23_j2400 L xs B x4
      else if ((xs i2) &&& 63) = 41 then
        J_299_23_j2456 L xs B x4
      else if ((xs i2) &&& 63) = 42 then
        J_299_23_j2469 L xs B x4
      else if ((xs i2) &&& 63) = 43 then
        J_299_23_j2520 L xs B x4
      else 
        J_299_23_j2564 L xs B x4
set_option maxRecDepth 200000 in
theorem g_299_23 {d : Nat} (hd : 11 ≤ d) {L : Nat} {xs : Nat → Int32} {res : ARe}  {s : Int32 × Wd} {o : (Int32 × Wd) ⊕ (Wd) ⊕ (Int32 × Wd)} (hr : G_299_23 L xs s = some o) (ka : ∀ s, o = .inl s → Ex d am_M299 (some (L, xs)) (P_299_23 L xs s) res) (kx : ∀ s, o = .inr (.inl s) → Ex d am_M299 (some (L, xs)) (PX_299_23 L xs s) res) (kr : ∀ r, o = .inr (.inr r) → res = (.inl (some (.int r.1)), mk r.2, Wd.kc r.2, Wd.kn r.2)) : Ex d am_M299 (some (L, xs)) (P_299_23 L xs s) res := by
  obtain ⟨x4, B⟩ := s
  delta G_299_23 at hr
  show Ex d am_M299 (some (L, xs)) (23, [some (.ref am_SB), some (.ref 0), some (.ref 29), some (.ref 46), some (.int x4), none, none], [], (mk B), B.kc, B.kn) res
  refine x_b 1 (S2 := (25, [some (.ref am_SB), some (.ref 0), some (.ref 29), some (.ref 46), some (.int x4), none, none], [.int x4], (mk B), B.kc, B.kn)) rfl ?_
  refine x_ldsn rfl rfl rfl ?_
  refine x_slen rfl rfl ?_
  refine x_b 2 (S2 := (30, [some (.ref am_SB), some (.ref 0), some (.ref 29), some (.ref 46), some (.int x4), none, none], [.int ((Int32.ofNat L) - 6), .int x4], (mk B), B.kc, B.kn)) rfl ?_
  rcases ite_some hr with ⟨h1, hr⟩ | ⟨h1, hr⟩
  · refine x_ct rfl rfl (decide_eq_true h1) ?_
    refine x_fg (Lq.n (Lq.n (Lq.n (Lq.n (Lq.n (Lq.s (Lq.s Lq.nil))))))) ?_
    exact kx B (Option.some.inj hr).symm
  · refine x_cf rfl rfl (decide_eq_false h1) ?_
    refine x_ldsn rfl rfl rfl ?_
    refine x_b 1 (S2 := (36, [some (.ref am_SB), some (.ref 0), some (.ref 29), some (.ref 46), some (.int x4), none, none], [.int x4, .ref am_SB], (mk B), B.kc, B.kn)) rfl ?_
    obtain ⟨i2, h3, hr⟩ := bd_some hr
    refine x_sld rfl rfl h3 ?_
    refine x_b 2 (S2 := (40, [some (.ref am_SB), some (.ref 0), some (.ref 29), some (.ref 46), some (.int x4), none, none], [.int ((xs i2) &&& 63)], (mk B), B.kc, B.kn)) rfl ?_
    rcases ite_some hr with ⟨h4, hr⟩ | ⟨h4, hr⟩
    · refine x_tswk rfl rfl h4 rfl ?_
      refine x_fg (Lq.s (Lq.s (Lq.s (Lq.s (Lq.s (Lq.s (Lq.s Lq.nil))))))) ?_
      exact j_299_23_j232 hd hr ka kx kr
    rcases ite_some hr with ⟨h42, hr⟩ | ⟨h42, hr⟩
    · refine x_tswk rfl rfl h42 rfl ?_
      refine x_fg (Lq.s (Lq.s (Lq.s (Lq.s (Lq.s (Lq.s (Lq.s Lq.nil))))))) ?_
      exact j_299_23_j336 hd hr ka kx kr
    rcases ite_some hr with ⟨h64, hr⟩ | ⟨h64, hr⟩
    · refine x_tswk rfl rfl h64 rfl ?_
      refine x_fg (Lq.s (Lq.s (Lq.s (Lq.s (Lq.s (Lq.s (Lq.s Lq.nil))))))) ?_
      exact j_299_23_j392 hd hr ka kx kr
    rcases ite_some hr with ⟨h75, hr⟩ | ⟨h75, hr⟩
    · refine x_tswk rfl rfl h75 rfl ?_
      refine x_fg (Lq.s (Lq.s (Lq.s (Lq.s (Lq.s (Lq.s (Lq.s Lq.nil))))))) ?_
      exact j_299_23_j405 hd hr ka kx kr
    rcases ite_some hr with ⟨h93, hr⟩ | ⟨h93, hr⟩
    · refine x_tswk rfl rfl h93 rfl ?_
      refine x_fg (Lq.s (Lq.s (Lq.s (Lq.s (Lq.s (Lq.s (Lq.s Lq.nil))))))) ?_
      exact j_299_23_j449 hd hr ka kx kr
    rcases ite_some hr with ⟨h119, hr⟩ | ⟨h119, hr⟩
    · refine x_tswk rfl rfl h119 rfl ?_
      refine x_fg (Lq.s (Lq.s (Lq.s (Lq.s (Lq.s (Lq.s (Lq.s Lq.nil))))))) ?_
      exact j_299_23_j517 hd hr ka kx kr
    rcases ite_some hr with ⟨h145, hr⟩ | ⟨h145, hr⟩
    · refine x_tswk rfl rfl h145 rfl ?_
      refine x_fg (Lq.s (Lq.s (Lq.s (Lq.s (Lq.s (Lq.s (Lq.s Lq.nil))))))) ?_
      exact j_299_23_j585 hd hr ka kx kr
    rcases ite_some hr with ⟨h171, hr⟩ | ⟨h171, hr⟩
    · refine x_tswk rfl rfl h171 rfl ?_
      refine x_fg (Lq.s (Lq.s (Lq.s (Lq.s (Lq.s (Lq.s (Lq.s Lq.nil))))))) ?_
      exact j_299_23_j653 hd hr ka kx kr
    rcases ite_some hr with ⟨h197, hr⟩ | ⟨h197, hr⟩
    · refine x_tswk rfl rfl h197 rfl ?_
      refine x_fg (Lq.s (Lq.s (Lq.s (Lq.s (Lq.s (Lq.s (Lq.s Lq.nil))))))) ?_
      exact j_299_23_j721 hd hr ka kx kr
    rcases ite_some hr with ⟨h223, hr⟩ | ⟨h223, hr⟩
    · refine x_tswk rfl rfl h223 rfl ?_
      refine x_fg (Lq.s (Lq.s (Lq.s (Lq.s (Lq.s (Lq.s (Lq.s Lq.nil))))))) ?_
      exact j_299_23_j789 hd hr ka kx kr
    rcases ite_some hr with ⟨h245, hr⟩ | ⟨h245, hr⟩
    · refine x_tswk rfl rfl h245 rfl ?_
      refine x_fg (Lq.s (Lq.s (Lq.s (Lq.s (Lq.s (Lq.s (Lq.s Lq.nil))))))) ?_
      exact j_299_23_j845 hd hr ka kx kr
    rcases ite_some hr with ⟨h267, hr⟩ | ⟨h267, hr⟩
    · refine x_tswk rfl rfl h267 rfl ?_
      refine x_fg (Lq.s (Lq.s (Lq.s (Lq.s (Lq.s (Lq.s (Lq.s Lq.nil))))))) ?_
      exact j_299_23_j901 hd hr ka kx kr
    rcases ite_some hr with ⟨h301, hr⟩ | ⟨h301, hr⟩
    · refine x_tswk rfl rfl h301 rfl ?_
      refine x_fg (Lq.s (Lq.s (Lq.s (Lq.s (Lq.s (Lq.s (Lq.s Lq.nil))))))) ?_
      exact j_299_23_j993 hd hr ka kx kr
    rcases ite_some hr with ⟨h323, hr⟩ | ⟨h323, hr⟩
    · refine x_tswk rfl rfl h323 rfl ?_
      refine x_fg (Lq.s (Lq.s (Lq.s (Lq.s (Lq.s (Lq.s (Lq.s Lq.nil))))))) ?_
      exact j_299_23_j1049 hd hr ka kx kr
    rcases ite_some hr with ⟨h341, hr⟩ | ⟨h341, hr⟩
    · refine x_tswk rfl rfl h341 rfl ?_
      refine x_fg (Lq.s (Lq.s (Lq.s (Lq.s (Lq.s (Lq.s (Lq.s Lq.nil))))))) ?_
      exact j_299_23_j1093 hd hr ka kx kr
    rcases ite_some hr with ⟨h351, hr⟩ | ⟨h351, hr⟩
    · refine x_tswk rfl rfl h351 rfl ?_
      refine x_fg (Lq.s (Lq.s (Lq.s (Lq.s (Lq.s (Lq.s (Lq.s Lq.nil))))))) ?_
      exact j_299_23_j1106 hd hr ka kx kr
    rcases ite_some hr with ⟨h362, hr⟩ | ⟨h362, hr⟩
    · refine x_tswk rfl rfl h362 rfl ?_
      refine x_fg (Lq.s (Lq.s (Lq.s (Lq.s (Lq.s (Lq.s (Lq.s Lq.nil))))))) ?_
      exact j_299_23_j1119 hd hr ka kx kr
    rcases ite_some hr with ⟨h380, hr⟩ | ⟨h380, hr⟩
    · refine x_tswk rfl rfl h380 rfl ?_
      refine x_fg (Lq.s (Lq.s (Lq.s (Lq.s (Lq.s (Lq.s (Lq.s Lq.nil))))))) ?_
      exact j_299_23_j1163 hd hr ka kx kr
    rcases ite_some hr with ⟨h390, hr⟩ | ⟨h390, hr⟩
    · refine x_tswk rfl rfl h390 rfl ?_
      refine x_fg (Lq.s (Lq.s (Lq.s (Lq.s (Lq.s (Lq.s (Lq.s Lq.nil))))))) ?_
      exact j_299_23_j1176 hd hr ka kx kr
    rcases ite_some hr with ⟨h412, hr⟩ | ⟨h412, hr⟩
    · refine x_tswk rfl rfl h412 rfl ?_
      refine x_fg (Lq.s (Lq.s (Lq.s (Lq.s (Lq.s (Lq.s (Lq.s Lq.nil))))))) ?_
      exact j_299_23_j1232 hd hr ka kx kr
    rcases ite_some hr with ⟨h439, hr⟩ | ⟨h439, hr⟩
    · refine x_tswk rfl rfl h439 rfl ?_
      refine x_fg (Lq.s (Lq.s (Lq.s (Lq.s (Lq.s (Lq.s (Lq.s Lq.nil))))))) ?_
      exact j_299_23_j1307 hd hr ka kx kr
    rcases ite_some hr with ⟨h465, hr⟩ | ⟨h465, hr⟩
    · refine x_tswk rfl rfl h465 rfl ?_
      refine x_fg (Lq.s (Lq.s (Lq.s (Lq.s (Lq.s (Lq.s (Lq.s Lq.nil))))))) ?_
      exact j_299_23_j1375 hd hr ka kx kr
    rcases ite_some hr with ⟨h487, hr⟩ | ⟨h487, hr⟩
    · refine x_tswk rfl rfl h487 rfl ?_
      refine x_fg (Lq.s (Lq.s (Lq.s (Lq.s (Lq.s (Lq.s (Lq.s Lq.nil))))))) ?_
      exact j_299_23_j1431 hd hr ka kx kr
    rcases ite_some hr with ⟨h509, hr⟩ | ⟨h509, hr⟩
    · refine x_tswk rfl rfl h509 rfl ?_
      refine x_fg (Lq.s (Lq.s (Lq.s (Lq.s (Lq.s (Lq.s (Lq.s Lq.nil))))))) ?_
      exact j_299_23_j1487 hd hr ka kx kr
    rcases ite_some hr with ⟨h531, hr⟩ | ⟨h531, hr⟩
    · refine x_tswk rfl rfl h531 rfl ?_
      refine x_fg (Lq.s (Lq.s (Lq.s (Lq.s (Lq.s (Lq.s (Lq.s Lq.nil))))))) ?_
      exact j_299_23_j1543 hd hr ka kx kr
    rcases ite_some hr with ⟨h554, hr⟩ | ⟨h554, hr⟩
    · refine x_tswk rfl rfl h554 rfl ?_
      refine x_fg (Lq.s (Lq.s (Lq.s (Lq.s (Lq.s (Lq.s (Lq.s Lq.nil))))))) ?_
      exact j_299_23_j1606 hd hr ka kx kr
    rcases ite_some hr with ⟨h565, hr⟩ | ⟨h565, hr⟩
    · refine x_tswk rfl rfl h565 rfl ?_
      refine x_fg (Lq.s (Lq.s (Lq.s (Lq.s (Lq.s (Lq.s (Lq.s Lq.nil))))))) ?_
      exact j_299_23_j1619 hd hr ka kx kr
    rcases ite_some hr with ⟨h587, hr⟩ | ⟨h587, hr⟩
    · refine x_tswk rfl rfl h587 rfl ?_
      refine x_fg (Lq.s (Lq.s (Lq.s (Lq.s (Lq.s (Lq.s (Lq.s Lq.nil))))))) ?_
      exact j_299_23_j1675 hd hr ka kx kr
    rcases ite_some hr with ⟨h609, hr⟩ | ⟨h609, hr⟩
    · refine x_tswk rfl rfl h609 rfl ?_
      refine x_fg (Lq.s (Lq.s (Lq.s (Lq.s (Lq.s (Lq.s (Lq.s Lq.nil))))))) ?_
      exact j_299_23_j1731 hd hr ka kx kr
    rcases ite_some hr with ⟨h620, hr⟩ | ⟨h620, hr⟩
    · refine x_tswk rfl rfl h620 rfl ?_
      refine x_fg (Lq.s (Lq.s (Lq.s (Lq.s (Lq.s (Lq.s (Lq.s Lq.nil))))))) ?_
      exact j_299_23_j1744 hd hr ka kx kr
    rcases ite_some hr with ⟨h642, hr⟩ | ⟨h642, hr⟩
    · refine x_tswk rfl rfl h642 rfl ?_
      refine x_fg (Lq.s (Lq.s (Lq.s (Lq.s (Lq.s (Lq.s (Lq.s Lq.nil))))))) ?_
      exact j_299_23_j1800 hd hr ka kx kr
    rcases ite_some hr with ⟨h653, hr⟩ | ⟨h653, hr⟩
    · refine x_tswk rfl rfl h653 rfl ?_
      refine x_fg (Lq.s (Lq.s (Lq.s (Lq.s (Lq.s (Lq.s (Lq.s Lq.nil))))))) ?_
      exact j_299_23_j1813 hd hr ka kx kr
    rcases ite_some hr with ⟨h679, hr⟩ | ⟨h679, hr⟩
    · refine x_tswk rfl rfl h679 rfl ?_
      refine x_fg (Lq.s (Lq.s (Lq.s (Lq.s (Lq.s (Lq.s (Lq.s Lq.nil))))))) ?_
      exact j_299_23_j1881 hd hr ka kx kr
    rcases ite_some hr with ⟨h701, hr⟩ | ⟨h701, hr⟩
    · refine x_tswk rfl rfl h701 rfl ?_
      refine x_fg (Lq.s (Lq.s (Lq.s (Lq.s (Lq.s (Lq.s (Lq.s Lq.nil))))))) ?_
      exact j_299_23_j1937 hd hr ka kx kr
    rcases ite_some hr with ⟨h727, hr⟩ | ⟨h727, hr⟩
    · refine x_tswk rfl rfl h727 rfl ?_
      refine x_fg (Lq.s (Lq.s (Lq.s (Lq.s (Lq.s (Lq.s (Lq.s Lq.nil))))))) ?_
      exact j_299_23_j2005 hd hr ka kx kr
    rcases ite_some hr with ⟨h749, hr⟩ | ⟨h749, hr⟩
    · refine x_tswk rfl rfl h749 rfl ?_
      refine x_fg (Lq.s (Lq.s (Lq.s (Lq.s (Lq.s (Lq.s (Lq.s Lq.nil))))))) ?_
      exact j_299_23_j2061 hd hr ka kx kr
    rcases ite_some hr with ⟨h779, hr⟩ | ⟨h779, hr⟩
    · refine x_tswk rfl rfl h779 rfl ?_
      refine x_fg (Lq.s (Lq.s (Lq.s (Lq.s (Lq.s (Lq.s (Lq.s Lq.nil))))))) ?_
      exact j_299_23_j2141 hd hr ka kx kr
    rcases ite_some hr with ⟨h801, hr⟩ | ⟨h801, hr⟩
    · refine x_tswk rfl rfl h801 rfl ?_
      refine x_fg (Lq.s (Lq.s (Lq.s (Lq.s (Lq.s (Lq.s (Lq.s Lq.nil))))))) ?_
      exact j_299_23_j2197 hd hr ka kx kr
    rcases ite_some hr with ⟨h829, hr⟩ | ⟨h829, hr⟩
    · refine x_tswk rfl rfl h829 rfl ?_
      refine x_fg (Lq.s (Lq.s (Lq.s (Lq.s (Lq.s (Lq.s (Lq.s Lq.nil))))))) ?_
      exact j_299_23_j2281 hd hr ka kx kr
    rcases ite_some hr with ⟨h852, hr⟩ | ⟨h852, hr⟩
    · refine x_tswk rfl rfl h852 rfl ?_
      refine x_fg (Lq.s (Lq.s (Lq.s (Lq.s (Lq.s (Lq.s (Lq.s Lq.nil))))))) ?_
      exact j_299_23_j2344 hd hr ka kx kr
    rcases ite_some hr with ⟨h874, hr⟩ | ⟨h874, hr⟩
    · refine x_tswk rfl rfl h874 rfl ?_
      refine x_fg (Lq.s (Lq.s (Lq.s (Lq.s (Lq.s (Lq.s (Lq.s Lq.nil))))))) ?_
      exact j_299_23_j2400 hd hr ka kx kr
    rcases ite_some hr with ⟨h896, hr⟩ | ⟨h896, hr⟩
    · refine x_tswk rfl rfl h896 rfl ?_
      refine x_fg (Lq.s (Lq.s (Lq.s (Lq.s (Lq.s (Lq.s (Lq.s Lq.nil))))))) ?_
      exact j_299_23_j2456 hd hr ka kx kr
    rcases ite_some hr with ⟨h906, hr⟩ | ⟨h906, hr⟩
    · refine x_tswk rfl rfl h906 rfl ?_
      refine x_fg (Lq.s (Lq.s (Lq.s (Lq.s (Lq.s (Lq.s (Lq.s Lq.nil))))))) ?_
      exact j_299_23_j2469 hd hr ka kx kr
    rcases ite_some hr with ⟨h925, hr⟩ | ⟨h925, hr⟩
    · refine x_tswk rfl rfl h925 rfl ?_
      refine x_fg (Lq.s (Lq.s (Lq.s (Lq.s (Lq.s (Lq.s (Lq.s Lq.nil))))))) ?_
      exact j_299_23_j2520 hd hr ka kx kr
    refine x_tswd rfl rfl (tsw_out 43 (by decide) (fun k hk => match k, hk with | 0, _ => h4 | 1, _ => h42 | 2, _ => h64 | 3, _ => h75 | 4, _ => h93 | 5, _ => h119 | 6, _ => h145 | 7, _ => h171 | 8, _ => h197 | 9, _ => h223 | 10, _ => h245 | 11, _ => h267 | 12, _ => h301 | 13, _ => h323 | 14, _ => h341 | 15, _ => h351 | 16, _ => h362 | 17, _ => h380 | 18, _ => h390 | 19, _ => h412 | 20, _ => h439 | 21, _ => h465 | 22, _ => h487 | 23, _ => h509 | 24, _ => h531 | 25, _ => h554 | 26, _ => h565 | 27, _ => h587 | 28, _ => h609 | 29, _ => h620 | 30, _ => h642 | 31, _ => h653 | 32, _ => h679 | 33, _ => h701 | 34, _ => h727 | 35, _ => h749 | 36, _ => h779 | 37, _ => h801 | 38, _ => h829 | 39, _ => h852 | 40, _ => h874 | 41, _ => h896 | 42, _ => h906 | 43, _ => h925 | k + 44, hk => absurd hk (by omega))) ⟨by decide, rfl⟩ ?_
    refine x_fg (Lq.s (Lq.s (Lq.s (Lq.s (Lq.s (Lq.s (Lq.s Lq.nil))))))) ?_
    exact j_299_23_j2564 hd hr ka kx kr
def F_299 (L : Nat) (xs : Nat → Int32) (B : Wd) : Option (Int32 × Wd) :=
  (lw (G_299_23 L xs) 200000 (0, B)).bind fun r =>
    match r with
    | .inr r947 => some r947
    | .inl B944 =>
      some (1, B944)
set_option maxRecDepth 200000 in
theorem f_299 {d : Nat} (hd : 11 ≤ d) {L : Nat} {xs : Nat → Int32} {res : ARe} {B : Wd} {o : Int32 × Wd} (hr : F_299 L xs B = some o) (kr : res = (.inl (some (.int o.1)), mk o.2, Wd.kc o.2, Wd.kn o.2)) : Ex d am_M299 (some (L, xs)) (20, [some (.ref am_SB), some (.ref 0), some (.ref 29), some (.ref 46), none, none, none], [], (mk B), B.kc, B.kn) res := by
  delta F_299 at hr
  refine x_b 2 (S2 := (23, [some (.ref am_SB), some (.ref 0), some (.ref 29), some (.ref 46), some (.int 0), none, none], [], (mk B), B.kc, B.kn)) rfl ?_
  refine x_fg (Lq.s (Lq.s (Lq.s (Lq.s (Lq.s (Lq.s (Lq.s Lq.nil))))))) ?_
  obtain ⟨o945, h943, hr⟩ := bd_some hr
  refine x_lw (P := P_299_23 L xs) (Q := fun x => match x with | .inl e => Ex d am_M299 (some (L, xs)) (PX_299_23 L xs e) res | .inr r => res = (.inl (some (.int r.1)), mk r.2, Wd.kc r.2, Wd.kn r.2)) (fun s o h1 ka kx => g_299_23 hd h1 ka (fun e he => kx (.inl e) he) (fun r he => kx (.inr r) he)) _ (0, B) _ h943 ?_
  rcases o945 with B944 | r947
  · show Ex d am_M299 (some (L, xs)) (2570, [none, none, none, none, none, none, none], [], (mk B944), B944.kc, B944.kn) res
    refine x_b 1 (S2 := (2571, [none, none, none, none, none, none, none], [.int 1], (mk B944), B944.kc, B944.kn)) rfl ?_
    cases hr
    rw [kr]
    exact x_ret rfl rfl (am_ret_z (by decide))
  · cases hr; exact kr
