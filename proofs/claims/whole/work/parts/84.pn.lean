/-! ===== THE SETUP TEXT: a path ===== -/
section PARSE
variable {b : Nat → Nat} {len n E sc : Nat} {pl : Nat → Nat} {T : Tx} {M : Md} {tg : Nat → Nat} {wt : Nat → Nat → Nat} {pr : Nat → Nat → Option Nat}
theorem PR.edge {B B' : Bd} {R R' : Nat → Int32} (hR : PR n E pl sc tg wt pr B R) {u v : Nat} (hu : u < n) (hv : v < n) (hne : ¬ u = v)
    (hB : CB n (ae E u v) B' ∧ B'.pile = B.pile ∧ B'.moveCount = B.moveCount ∧ B'.strategyCount = B.strategyCount ∧ B'.targets = B.targets ∧ B'.weights = B.weights ∧ B'.parents = B.parents)
    (hM : MR n (ae E u v) R') (h7 : ∀ j, 7 ≤ j → R' j = R j) : PR n (ae E u v) pl sc tg wt pr B' R' := by
  obtain ⟨r1, r2, r3, r4, r5, r6, r7, r8, r9, r10, r11⟩ := hR
  obtain ⟨b1, b2, b3, b4, b5, b6, b7⟩ := hB
  refine ⟨b1, fun w hw => by rw [b2]; exact r2 w hw, b3.trans r3, ⟨b4.trans r4.1, fun k hk => by rw [b5, b6, b7]; exact r4.2 k hk⟩, hM, fun w hw => by rw [h7 _ (by omega)]; exact r6 w hw, by rw [h7 _ (by omega)]; exact r7, ⟨by rw [h7 _ (by omega)]; exact r8.1, fun k hk => ?_⟩, r9.ae hu hv hne, r10, r11⟩
  rw [h7 _ (by omega)]
  exact ⟨(r8.2 k hk).1, fun w hw => by rw [h7 _ (by omega), h7 _ (by omega)]; exact (r8.2 k hk).2 w hw⟩
theorem tE_gt {p lo hi : Nat} (hp : p ≤ len) (h : ism lo hi b len p = true) : p < tE b len p := by
  obtain ⟨q1, q2, q3, q4⟩ := of_decide_eq_true h
  have k0 := tS_le (b := b) hp
  have k2 := tA_le (b := b) hp
  have k3 := tD_le (b := b) hp
  have he : tE b len p = max (tA b len p) (tD b len p) := by unfold tE; rw [if_neg (by omega)]
  unfold tK at q1
  split at q1
  · split at q1
    · omega
    · split at q1
      · omega
      · omega
  · omega
theorem MK2.of {M M' : Md} {p : Nat} (h : MK2 b len p M) (h1 : M'.at = M.at) (h2 : M'.from_ = M.from_) (h3 : M'.kind = M.kind) (h4 : M'.number = M.number) : MK2 b len p M' := ⟨h2.trans h.1, h1.trans h.2.1, h3.trans h.2.2.1, fun z => by rw [h4]; exact h.2.2.2 z⟩
/-- the model's exit once something is wrong -/
theorem p157w {e : Nat} (hw : M.wrong = nI e) (he : e < 2 ^ 31) (x y : Int32) (k : Nat) : lw (G_157_11) (k + 1) (x, y, M) = some M := by
  apply lw_end
  simp only [G_157_11]
  rw [m146n hw he, Option.bind_some, if_pos rfl]
theorem m155n {e : Nat} (h : M.wrong = nI e) (he : e < 2 ^ 31) : ∃ M', F_155 M = some (0, M') ∧ M'.wrong = nI e ∧ MF M M' := by
  obtain ⟨Z, d1, d2, d3, d4, d5⟩ := m149n (x := 0) (z := M.read 0 - 1) h he
  refine ⟨Z, ?_, d2, d5⟩
  unfold F_155
  rw [show ix 0 93 = some 0 from rfl, Option.bind_some, d1]
  rfl
theorem p157e {e : Nat} {a : Int32} {Z : Md} (hF : F_155 M = some (a, Z)) (h : Z.wrong = nI e) (he : e < 2 ^ 31) (x : Int32) : ∃ y, J_157_11_j68 M x = some (.inl (a, y, Z)) := by
  unfold J_157_11_j68
  rw [hF, Option.bind_some]
  show ∃ y, (F_146 Z).bind _ = _
  rw [m146n h he]
  by_cases q : Z.kind = 2
  · refine ⟨1, ?_⟩
    show J_157_11_j86 Z a = _
    unfold J_157_11_j86
    rw [if_neg (fun z => z q)]
    rfl
  · refine ⟨0, ?_⟩
    show J_157_11_j86 Z a = _
    unfold J_157_11_j86
    rw [if_pos q]
    rfl
/-- one step of a path's loop, of both -/
theorem p75s {p k u : Nat} {fl : Int32} (hP : PT b len p T M) (hR : PR n E pl sc tg wt pr T.draft M.read) (hu : u < n) (hk : k + 1 ≤ p)
    (hfl : (fl = 1 ∧ (k = 0 ∨ tK b len p = 2)) ∨ (fl = 0 ∧ ¬ k = 0 ∧ ¬ tK b len p = 2)) :
    (G_157_11 (nI u, fl, M) = some (.inr M) ∧ G_75_24 (nI u, nI k, T) = some (.inr (.inl T))) ∨
    (G_75_24 (nI u, nI k, T) = some (.inr (.inr (0, T))) ∧ ∃ x y M' e, G_157_11 (nI u, fl, M) = some (.inl (x, y, M')) ∧ e ≤ len ∧ M'.wrong = nI e ∧ T.start = nI e ∧ MF M M') ∨
    (∃ v fl' T' M', G_75_24 (nI u, nI k, T) = some (.inl (nI v, nI (k + 1), T')) ∧ G_157_11 (nI u, fl, M) = some (.inl (nI v, fl', M')) ∧ PF T T' M M' ∧ PT b len (tE b len p) T' M' ∧ PR n (ae E u v) pl sc tg wt pr T'.draft M'.read ∧ v < n ∧ p < tE b len p ∧
      ((fl' = 1 ∧ (k + 1 = 0 ∨ tK b len (tE b len p) = 2)) ∨ (fl' = 0 ∧ ¬ k + 1 = 0 ∧ ¬ tK b len (tE b len p) = 2))) := by
  obtain ⟨hT, hM, hp, hC, hK, hw⟩ := id hP
  have h4 := hT.2.1
  have hG := hR.2.2.2.2.2.2.2.2.1
  have hMR := hR.2.2.2.2.1
  have hn1 := hG.1
  have hn6 := hG.2.1
  have hE := hG.E_lt
  have k3 := tK_le b len p
  have k0 := tS_le (b := b) hp
  rcases hfl with ⟨rfl, hf⟩ | ⟨rfl, hf1, hf2⟩
  · refine .inr ?_
    have cs : G_75_24 (nI u, nI k, T) = J_75_24_j43 T (nI u) (nI k) := by
      simp only [G_75_24]
      rw [show (400 : Int32) = nI 400 from rfl, if_neg (nI_ge (by omega) (by omega))]
      by_cases hk0 : k = 0
      · subst hk0
        rw [if_pos (show nI 0 = 0 from rfl)]
      · have q : T.kind = 2 := by rw [hC.2.2.1, hf.resolve_left hk0]; rfl
        rw [if_neg (by rw [z0, nI_eq (by omega) (by omega)]; exact hk0), if_neg (fun z => z q)]
    have hF : F_148 M 0 (nI n - 1) = some (bI (ism 0 (n - 1) b len p)) := by
      rw [z1, pk_sub hn1]
      exact m148 hp h4 hK hw (by decide) (by omega)
    have h1u : M.read (1 + u) = nI (nb E u) := hMR.2 u (by omega)
    have nbl : nb E u < 64 := nb_lt E u
    rcases nt (lo := 0) (hi := n - 1) hP (by decide) (by omega) with ⟨i1, _, v2, v3, v4, T2, M2, b1, b2, b3, b4, b5, b6⟩ | ⟨i1, v3, Y, b2, b3, ⟨e, e1, e2, e3⟩, b5, b6⟩
    · have hv := c70 (r := true) hR v3
      have hm := m155 hR b2
      obtain ⟨q1, q2, q3, q4⟩ := of_decide_eq_true i1
      have hnum : M.number = nI (tN b len p) := by
        obtain ⟨a, a1, a2, a3⟩ := hK.2.2.2 q1
        rw [a1, a3 q2]
      have hgt := tE_gt hp i1
      rw [i1] at hF
      generalize tN b len p = v at *
      have fail : (v = u ∨ ad E u v = true) → (G_75_24 (nI u, nI k, T) = some (.inr (.inr (0, T))) ∧ ∃ x y M' e, G_157_11 (nI u, 1, M) = some (.inl (x, y, M')) ∧ e ≤ len ∧ M'.wrong = nI e ∧ T.start = nI e ∧ MF M M') := by
        intro hor
        obtain ⟨y, hy, y1, y2, y3, y4, y5, y6, y7⟩ := md_wrong M (nI (tS b len p))
        obtain ⟨Z, d1, d2, d3⟩ := m155n y6 (by omega)
        obtain ⟨s, hs⟩ := p157e d1 d2 (by omega) (nI u)
        have j64 : J_157_11_j64 M (nI u) = some (.inl (0, s, Z)) := by
          unfold J_157_11_j64
          rw [m145g hw hK.1, Option.bind_some, hy, hs]
        refine ⟨?_, 0, s, Z, tS b len p, ?_, k0.2, d2, hC.1, y7.tr d3⟩
        · rw [cs]
          unfold J_75_24_j43
          rw [hv, Option.bind_some, if_neg (by decide), v4]
          by_cases huv : v = u
          · rw [if_pos (by rw [huv])]
            rfl
          · rw [if_neg (by rw [nI_eq (by omega) (by omega)]; exact huv), c6 hR.1 hE (by omega) (by omega), Option.bind_some, hor.resolve_left huv, if_neg (by decide)]
            rfl
        · simp only [G_157_11]
          rw [m146g hw, Option.bind_some, if_neg (by decide), if_neg (by decide), show ix 0 93 = some 0 from rfl, Option.bind_some, hMR.1, hF, Option.bind_some, if_neg (by decide), hnum]
          by_cases huv : v = u
          · rw [if_pos (by rw [huv]), j64]
          · rw [if_neg (by rw [nI_eq (by omega) (by omega)]; exact huv), i1a, ixn (by omega) (by decide), Option.bind_some, h1u, m136 (by omega) (by omega), Option.bind_some, nb_bit, decide_eq_true (show v < 6 by omega), Bool.true_and, hor.resolve_left huv, if_neg (by decide), j64]
      by_cases huv : v = u
      · exact .inl (fail (.inl huv))
      · cases had : ad E u v with
        | true => exact .inl (fail (.inr had))
        | false =>
          refine .inr ?_
          obtain ⟨D, hD, hD'⟩ := c4 hR.1 (u := u) (v := v) (by omega) (by omega)
          obtain ⟨T3, hT3, u1, u2, u3, u4, u5, u6, u7⟩ := tx_draft T D
          have hT3x : TX b len T3 := ⟨u5.trans hT.1, hT.2.1, fun i hi => by rw [u6]; exact hT.2.2 i hi⟩
          have kk := tE_le (b := b) hp
          obtain ⟨T4, t4, t5, t6⟩ := c66 hT3x kk.2 (u2.trans hC.2.1)
          have dr : T4.draft = D := t6.2.2.trans u7
          have hM2 : MR n E M2.read := by rw [b5]; exact hMR
          obtain ⟨M3, m1, m2, m3, m4, m5, m6, m7, m8, m9⟩ := m151 hM2 (u := u) (v := v) (by omega) (by omega) (fun z => huv z.symm)
          have hPR : PR n (ae E u v) pl sc tg wt pr T4.draft M3.read := by
            rw [dr]
            exact hR.edge hu (by omega) (fun z => huv z.symm) hD' m2 (fun j hj => by rw [m3 j hj, b5])
          have c1 : G_75_24 (nI u, nI k, T) = some (.inl (nI v, nI (k + 1), T4)) := by
            rw [cs]
            unfold J_75_24_j43
            rw [hv, Option.bind_some, if_neg (by decide), v4, if_neg (by rw [nI_eq (by omega) (by omega)]; exact huv), c6 hR.1 hE (by omega) (by omega), Option.bind_some, had, if_pos (by decide), hD, Option.bind_some, hT3, Option.bind_some, t4, u4, v4, z1, nI_add]
            rfl
          have c2 : ∀ fl', J_157_11_j86 M3 (nI v) = some (.inl (nI v, fl', M3)) → G_157_11 (nI u, 1, M) = some (.inl (nI v, fl', M3)) := by
            intro fl' hfl'
            simp only [G_157_11]
            rw [m146g hw, Option.bind_some, if_neg (by decide), if_neg (by decide), show ix 0 93 = some 0 from rfl, Option.bind_some, hMR.1, hF, Option.bind_some, if_neg (by decide), hnum, if_neg (by rw [nI_eq (by omega) (by omega)]; exact huv), i1a, ixn (by omega) (by decide), Option.bind_some, h1u, m136 (by omega) (by omega), Option.bind_some, nb_bit, decide_eq_true (show v < 6 by omega), Bool.true_and, had, if_pos (by decide)]
            unfold J_157_11_j68
            rw [hm, Option.bind_some]
            show (F_146 M2).bind _ = _
            rw [m146g b3.2.2.2.2.2, Option.bind_some, if_neg (by decide), m1, Option.bind_some, hfl']
          have hPF : PF T T4 M M3 := ⟨t6.1.trans u5, t6.2.1.trans u6, b6.2.2.tr m9⟩
          have hPT : PT b len (tE b len p) T4 M3 := ⟨hT3x.of t6, b3.2.1.of m9, kk.2, t5, b3.2.2.2.2.1.of m4 m5 m6 m7, m8.trans b3.2.2.2.2.2⟩
          have hkd : M3.kind = nI (tK b len (tE b len p)) := hPT.2.2.2.2.1.2.2.1
          have k3' := tK_le b len (tE b len p)
          have hvn : v < n := by omega
          have hk10 : ¬ k + 1 = 0 := by omega
          by_cases h2 : tK b len (tE b len p) = 2
          · refine ⟨v, 1, T4, M3, c1, c2 1 ?_, hPF, hPT, hPR, hvn, hgt, .inl ⟨rfl, .inr h2⟩⟩
            unfold J_157_11_j86
            rw [if_neg (fun z => z (by rw [hkd, h2]; rfl))]
            rfl
          · refine ⟨v, 0, T4, M3, c1, c2 0 ?_, hPF, hPT, hPR, hvn, hgt, .inr ⟨rfl, hk10, h2⟩⟩
            unfold J_157_11_j86
            rw [if_pos (by rw [hkd, z2, nI_eq (by omega) (by omega)]; exact h2)]
            rfl
    · refine .inl ?_
      have hv := c70 (r := false) hR v3
      have hm := m155 hR b2
      rw [i1] at hF
      obtain ⟨s, hs⟩ := p157e hm e2 (by omega) (nI u)
      refine ⟨?_, nI 0, s, Y, e, ?_, e1, e2, e3, b6⟩
      · rw [cs]
        unfold J_75_24_j43
        rw [hv, Option.bind_some, if_pos (by decide)]
        rfl
      · simp only [G_157_11]
        rw [m146g hw, Option.bind_some, if_neg (by decide), if_neg (by decide), show ix 0 93 = some 0 from rfl, Option.bind_some, hMR.1, hF, Option.bind_some, if_pos (by decide), hs]
  · refine .inl ⟨?_, ?_⟩
    · simp only [G_157_11]
      rw [m146g hw, Option.bind_some, if_neg (by decide), if_pos trivial]
    · simp only [G_75_24]
      have q : ¬ T.kind = 2 := by rw [hC.2.2.1, z2, nI_eq (by omega) (by omega)]; exact hf2
      rw [show (400 : Int32) = nI 400 from rfl, if_neg (nI_ge (by omega) (by omega)), if_neg (by rw [z0, nI_eq (by omega) (by omega)]; exact hf1), if_pos q]
theorem p75l : ∀ (f p k E u : Nat) (T : Tx) (M : Md) (fl : Int32), PT b len p T M → PR n E pl sc tg wt pr T.draft M.read → u < n → k + 1 ≤ p → len - p ≤ f →
    ((fl = 1 ∧ (k = 0 ∨ tK b len p = 2)) ∨ (fl = 0 ∧ ¬ k = 0 ∧ ¬ tK b len p = 2)) →
    ∃ M', lw (G_157_11) (f + 2) (nI u, fl, M) = some M' ∧
      ((∃ T' E' p', p ≤ p' ∧ lw (G_75_24) (f + 2) (nI u, nI k, T) = some (.inl T') ∧ PF T T' M M' ∧ PT b len p' T' M' ∧ PR n E' pl sc tg wt pr T'.draft M'.read) ∨
       (∃ T', lw (G_75_24) (f + 2) (nI u, nI k, T) = some (.inr (0, T')) ∧ PF T T' M M' ∧ PB len T' M')) := by
  intro f
  induction f with
  | zero =>
    intro p k E u T M fl hP hR hu hk hf hfl
    rcases p75s hP hR hu hk hfl with ⟨a, c⟩ | ⟨a, x, y, M', e, c, d1, d2, d3, d4⟩ | ⟨v, fl', T', M', c1, c2, c3, c4, c5, c6, c7, c8⟩
    · exact ⟨M, lw_end a, .inl ⟨T, E, p, Nat.le_refl _, lw_end c, ⟨rfl, rfl, MF.rf M⟩, hP, hR⟩⟩
    · have := hP.1.2.1
      exact ⟨M', (lw_one c).trans (p157w d2 (by omega) _ _ _), .inr ⟨T, lw_end a, ⟨rfl, rfl, d4⟩, e, d1, d3, d2⟩⟩
    · exact absurd (tE_le (b := b) hP.2.2.1).2 (by omega)
  | succ f ih =>
    intro p k E u T M fl hP hR hu hk hf hfl
    rcases p75s hP hR hu hk hfl with ⟨a, c⟩ | ⟨a, x, y, M', e, c, d1, d2, d3, d4⟩ | ⟨v, fl', T', M', c1, c2, c3, c4, c5, c6, c7, c8⟩
    · exact ⟨M, lw_end a, .inl ⟨T, E, p, Nat.le_refl _, lw_end c, ⟨rfl, rfl, MF.rf M⟩, hP, hR⟩⟩
    · have := hP.1.2.1
      exact ⟨M', (lw_one c).trans (p157w d2 (by omega) _ _ _), .inr ⟨T, lw_end a, ⟨rfl, rfl, d4⟩, e, d1, d3, d2⟩⟩
    · obtain ⟨X, x1, x2⟩ := ih _ (k + 1) _ v T' M' fl' c4 c5 c6 (by omega) (by omega) c8
      refine ⟨X, (lw_one c2).trans x1, ?_⟩
      rcases x2 with ⟨Y, E', p', y0, y1, y2, y3, y4⟩ | ⟨Y, y1, y2, y3⟩
      · exact .inl ⟨Y, E', p', by omega, (lw_one c1).trans y1, c3.tr y2, y3, y4⟩
      · exact .inr ⟨Y, (lw_one c1).trans y1, c3.tr y2, y3⟩
/-- the path statement -/
theorem p75 {p : Nat} (hP : PT b len p T M) (hR : PR n E pl sc tg wt pr T.draft M.read) :
    ∃ r T' M', F_75 T = some (bI r, T') ∧ F_157 M = some M' ∧ PF T T' M M' ∧ ((r = true ∧ ∃ E' p', p ≤ p' ∧ PT b len p' T' M' ∧ PR n E' pl sc tg wt pr T'.draft M'.read) ∨ (r = false ∧ PB len T' M')) := by
  have hG := hR.2.2.2.2.2.2.2.2.1
  have hn := hG.2.1
  have h1 := hG.1
  have h4 := hP.1.2.1
  obtain ⟨A, X, a1, a2, a3, a4, a5, a6⟩ := nx hP
  have hRA : PR n E pl sc tg wt pr A.draft X.read := by rw [a4, a5]; exact hR
  rcases nt (lo := 0) (hi := n - 1) a3 (by decide) (by omega) with ⟨i1, _, v2, v3, v4, B, Y, b1, b2, b3, b4, b5, b6⟩ | ⟨_, v3, Y, b2, b3, ⟨e, e1, e2, e3⟩, b5, b6⟩
  · have hv := c70 (r := true) hRA v3
    have hm := m155 hRA b2
    have hgt := tE_gt a3.2.2.1 i1
    have hge := tE_ge (b := b) hP.2.2.1
    have hRB : PR n E pl sc tg wt pr B.draft Y.read := by rw [b4, b5]; exact hRA
    generalize tN b len (tE b len p) = v at *
    obtain ⟨Z, z1', z2'⟩ := p75l (len - 0 + 199998 - (len - 0)) _ 0 E v B Y 1 b3 hRB (by omega) (by omega) (by omega) (.inl ⟨rfl, .inl rfl⟩)
    have ef : len - 0 + 199998 - (len - 0) + 2 = 200000 := by omega
    rw [ef] at z1' z2'
    have hF : F_157 M = some Z := by
      unfold F_157
      rw [a2, Option.bind_some, hm, Option.bind_some]
      show (lw G_157_11 200000 (nI v, 1, Y)).bind _ = _
      rw [z1']
      rfl
    rcases z2' with ⟨Q, E', p', q0, q1, q2, q3, q4⟩ | ⟨Q, q1, q2, q3⟩
    · refine ⟨true, Q, Z, ?_, hF, (a6.tr b6).tr q2, .inl ⟨rfl, E', p', by omega, q3, q4⟩⟩
      unfold F_75
      rw [a1, Option.bind_some, hv, Option.bind_some, if_pos (by decide), b1, Option.bind_some, v4]
      show (lw G_75_24 200000 (nI v, nI 0, B)).bind _ = _
      rw [q1]
      rfl
    · refine ⟨false, Q, Z, ?_, hF, (a6.tr b6).tr q2, .inr ⟨rfl, q3⟩⟩
      unfold F_75
      rw [a1, Option.bind_some, hv, Option.bind_some, if_pos (by decide), b1, Option.bind_some, v4]
      show (lw G_75_24 200000 (nI v, nI 0, B)).bind _ = _
      rw [q1]
      rfl
  · have hv := c70 (r := false) hRA v3
    have hm := m155 hRA b2
    refine ⟨false, A, Y, ?_, ?_, ⟨a6.1, a6.2.1, a6.2.2.tr b6⟩, .inr ⟨rfl, e, e1, e3, e2⟩⟩
    · unfold F_75
      rw [a1, Option.bind_some, hv, Option.bind_some, if_neg (by decide)]
      rfl
    · unfold F_157
      rw [a2, Option.bind_some, hm, Option.bind_some]
      show (lw G_157_11 200000 (nI 0, 1, Y)).bind _ = _
      rw [p157w e2 (by omega) _ _ 199999]
      rfl
end PARSE
