/-! ===== REACH ===== -/
section RCH
variable {k : Nat} {W : Wd} {n E t : Nat}
theorem lw_inv {S X : Type} {f : S → Option (S ⊕ X)} {I : S → Prop} {J : X → Prop} (h1 : ∀ s u, I s → f s = some (.inl u) → I u) (h2 : ∀ s x, I s → f s = some (.inr x) → J x) : ∀ (k : Nat) (s : S) (x : X), I s → lw f k s = some x → J x
  | 0, s, x, _, h => by cases h
  | k + 1, s, x, hI, h => by
    unfold lw at h
    cases hf : f s with
    | none => rw [hf] at h; cases h
    | some r =>
      rw [hf] at h
      cases r with
      | inl u => exact lw_inv h1 h2 k u x (h1 s u hI hf) h
      | inr y =>
        cases h
        exact h2 s x hI hf
/-- the tables stay -/
def ST (M M' : Md) : Prop := M'.piles = M.piles ∧ M'.room = M.room ∧ M'.unit = M.unit ∧ M'.totals = M.totals ∧ M'.isReached = M.isReached
theorem ST.rf (M : Md) : ST M M := ⟨rfl, rfl, rfl, rfl, rfl⟩
theorem ST.tr {A B C : Md} (h : ST A B) (k : ST B C) : ST A C := ⟨k.1.trans h.1, k.2.1.trans h.2.1, k.2.2.1.trans h.2.2.1, k.2.2.2.1.trans h.2.2.2.1, k.2.2.2.2.trans h.2.2.2.2⟩
theorem TB.st {M M' : Md} (s : ST M M') (h : TB n E t M) : TB n E t M' := by
  obtain ⟨a1, a2, a3, a4, a5⟩ := s
  obtain ⟨⟨b1, b2⟩, b3, b4⟩ := h
  exact ⟨⟨a1.trans b1, fun v hv => by rw [a2, a3]; exact b2 v hv⟩, fun c hc => by rw [a4]; exact b3 c hc, fun c hc => by rw [a5]; exact b4 c hc⟩
theorem s190 {M M' : Md} {x z : Int32} (h : F_190 M x z = some M') : ST M M' := by
  unfold F_190 at h
  cases h1 : ix (7 + x) 93 with
  | none => rw [h1] at h; cases h
  | some i =>
    cases h2 : ix (7 + z) 93 with
    | none => rw [h1, Option.bind_some, Option.bind_some, h2] at h; cases h
    | some j =>
      rw [h1, Option.bind_some, Option.bind_some, h2, Option.bind_some, Option.bind_some, show ix 13 93 = some 13 from rfl, Option.bind_some, Option.bind_some] at h
      cases h
      exact ⟨rfl, rfl, rfl, rfl, rfl⟩
theorem s166j {M M' : Md} (h : J_166_0_j50 M = some M') : ST M M' := by
  unfold J_166_0_j50 at h
  cases h1 : F_163 93 930 M.now M.history 0 (93 * M.entries) with
  | none => rw [h1] at h; cases h
  | some o =>
    rw [h1, Option.bind_some, Option.bind_some, Option.bind_some] at h
    cases h
    exact ⟨rfl, rfl, rfl, rfl, rfl⟩
theorem s166 {M M' : Md} (h : F_166 M = some M') : ST M M' := by
  unfold F_166 at h
  by_cases c : ¬ M.entries = 10
  · rw [if_pos c] at h
    exact s166j h
  · rw [if_neg c] at h
    cases h1 : lw (G_166_12) 200000 (93, M) with
    | none => rw [h1] at h; cases h
    | some X =>
      rw [h1, Option.bind_some, Option.bind_some] at h
      have A : ∀ s u : Int32 × Md, ST M s.2 → G_166_12 s = some (.inl u) → ST M u.2 := by
        rintro ⟨x, Z⟩ ⟨x', Z'⟩ hI hf
        simp only [G_166_12] at hf
        split at hf
        · cases hf
        · cases g1 : ix x 930 with
          | none => rw [g1] at hf; cases hf
          | some i =>
            cases g2 : ix (x - 93) 930 with
            | none => rw [g1, Option.bind_some, g2] at hf; cases hf
            | some j =>
              obtain ⟨Y, hY, q⟩ : ∃ Y, Z.w_history (upd Z.history j (Z.history i)) = Y ∧ ST Z Y := ⟨_, rfl, rfl, rfl, rfl, rfl, rfl⟩
              rw [g1, Option.bind_some, g2, Option.bind_some, hY] at hf
              have hf2 : some (Sum.inl (x + 1, Y)) = some (Sum.inl (x', Z')) := hf
              have e := Sum.inl.inj (Option.some.inj hf2)
              have e2 : Y = Z' := (Prod.mk.inj e).2
              rw [← e2]
              exact hI.tr q
      have C : ∀ (s : Int32 × Md) (Y : Md), ST M s.2 → G_166_12 s = some (.inr Y) → ST M Y := by
        rintro ⟨x, Z⟩ Y hI hf
        simp only [G_166_12] at hf
        split at hf
        · have e : Z = Y := Sum.inr.inj (Option.some.inj hf)
          rw [← e]
          exact hI
        · cases g1 : ix x 930 with
          | none => rw [g1] at hf; cases hf
          | some i =>
            cases g2 : ix (x - 93) 930 with
            | none => rw [g1, Option.bind_some, g2] at hf; cases hf
            | some j =>
              rw [g1, Option.bind_some, g2, Option.bind_some, Option.bind_some] at hf
              cases hf
      have s1 : ST M X := lw_inv (f := G_166_12) (I := fun s => ST M s.2) (J := fun X => ST M X) A C 200000 ((93 : Int32), M) X (ST.rf M) h1
      obtain ⟨Z, hZ, s2⟩ : ∃ Z, X.w_entries (X.entries - 1) = Z ∧ ST X Z := ⟨_, rfl, rfl, rfl, rfl, rfl, rfl⟩
      rw [hZ] at h
      exact (s1.tr s2).tr (s166j h)
theorem pmv_sm {p : Nat → Nat} {u v : Nat} (hu : u < n) (hv : v < n) (hne : ¬ u = v) (h2 : 2 ≤ p u) : sm (pmv p u v) n + 1 = sm p n := by
  have e1 := sm_upd (f := p) (g := fun w => if w = u then p u - 2 else p w) hu (fun w _ hw => if_neg hw)
  have e2 := sm_upd (f := fun w => if w = u then p u - 2 else p w) (g := pmv p u v) hv (fun w _ hw => by
    show (if w = v then _ else if w = u then p u - 2 else p w) = _
    rw [if_neg hw])
  have e3 : pmv p u v v = p v + 1 := by
    unfold pmv
    rw [if_pos rfl, if_neg (fun z : v = u => hne z.symm)]
  have e4 : (if u = u then p u - 2 else p u) = p u - 2 := if_pos rfl
  have e5 : (if v = u then p u - 2 else p v) = p v := if_neg (fun z => hne z.symm)
  have e6 := sm_mem (f := p) hu
  rw [e4] at e1
  rw [e5, e3] at e2
  omega
theorem SQ.plq {sc : Nat} {pl pl' tg : Nat → Nat} {wt : Nat → Nat → Nat} {pr : Nat → Nat → Option Nat} {B D : Bd} {R R' : Nat → Int32} (h : SQ n E pl sc tg wt pr B R) (h1 : D.vertices = B.vertices) (h2 : D.edges = B.edges) (h3 : D.distances = B.distances) (h4 : D.strategyCount = B.strategyCount) (h5 : D.targets = B.targets) (h6 : D.weights = B.weights) (h7 : D.parents = B.parents) (h8 : CP pl' D) (h9 : MP pl' R') (h10 : ∀ j, (j < 7 ∨ 14 ≤ j) → R' j = R j) (h11 : R' 13 = D.moveCount) (h12 : ∀ v, v < 6 → pl' v ≤ 999) : SQ n E pl' sc tg wt pr D R' := by
  obtain ⟨a1, a2, a3, a4, a5, a6, a7, a8, a9, a10, a11, a12⟩ := h
  exact ⟨⟨h1.trans a1.1, h2.trans a1.2⟩, h8, ⟨h4.trans a3.1, fun k hk => by rw [h5, h6, h7]; exact a3.2 k hk⟩, fun u v hu hv => by rw [h3]; exact a4 u v hu hv, ⟨by rw [h10 _ (by omega)]; exact a5.1, fun v hv => by rw [h10 _ (by omega)]; exact a5.2 v hv⟩, h9, ⟨by rw [h10 _ (by omega)]; exact a7.1, fun k hk => ⟨by rw [h10 _ (by omega)]; exact (a7.2 k hk).1, fun v hv => ⟨by rw [h10 _ (by omega)]; exact ((a7.2 k hk).2 v hv).1, by rw [h10 _ (by omega)]; exact ((a7.2 k hk).2 v hv).2⟩⟩⟩, h11, a9, a10, a11, h12⟩
theorem nxm_ex {p : Nat → Nat} (hG : Gr n E) (hC : Cn n E) (ht : t < n) (hh : hold n E t p = false) (h0 : p t = 0) : ∃ x y, x < n ∧ y < n ∧ nxm n E t p = some (10 * x + y) ∧ mv E p x y = true ∧ hold n E t (pmv p x y) = false := by
  cases hq : nxm n E t p with
  | none =>
    obtain ⟨x, y, hx, hy, hg⟩ := gd_ex hG hC ht hh h0
    rw [nmv_none hq x y (Nat.zero_le _) (by omega) hy] at hg
    cases hg
  | some m =>
    obtain ⟨x, y, hx, hy, rfl, hg⟩ := nmv_some hq
    obtain ⟨g1, g2⟩ := (Bool.and_eq_true _ _).mp hg
    exact ⟨x, y, by omega, hy, rfl, g1, by
      cases h : hold n E t (pmv p x y) with
      | false => rfl
      | true => rw [h] at g2; cases g2⟩
theorem reach_l {a sc : Nat} {P : FP} {tg : Nat → Nat} {wt : Nat → Nat → Nat} {pr : Nat → Nat → Option Nat} (ht : t < n) (fR : FR n E t P) : ∀ (f i k1 k2 : Nat) (p : Nat → Nat) (V : Wd) (M : Md), sm p n ≤ f → f < k1 → f < k2 → i + sm p n ≤ 5994 → V.fp a = some P → SQ n E p sc tg wt pr V.board M.now → TB n E t M → hold n E t p = false →
    ∃ j D M', lw (G_89_44 (nI t) a) k1 (nI i, V) = some (nI j, V.w_board D) ∧ lw (G_194_56 (nI t)) k2 (nI i, M) = some (nI j, M') ∧ SP D M'.now ∧ MN M M' ∧ M'.thrown = M.thrown := by
  intro f
  induction f with
  | zero =>
    intro i k1 k2 p V M hs hk1 hk2 hi hf sq tb hh
    obtain ⟨qB, qP, qS, qD, rM, rP, rS, r13, hG, hC, hO, h9⟩ := sq
    have hp0 : p t = 0 := by
      have := sm_mem (f := p) ht
      omega
    obtain ⟨x, y, hx, hy, -, hm, -⟩ := nxm_ex hG hC ht hh hp0
    unfold mv at hm
    rw [Bool.and_eq_true, Bool.and_eq_true, decide_eq_true_eq] at hm
    have := sm_mem (f := p) hx
    omega
  | succ f ih =>
    intro i k1 k2 p V M hs hk1 hk2 hi hf sq tb hh
    obtain ⟨k1, rfl⟩ : ∃ j, k1 = j + 1 := ⟨k1 - 1, by omega⟩
    obtain ⟨k2, rfl⟩ : ∃ j, k2 = j + 1 := ⟨k2 - 1, by omega⟩
    obtain ⟨qB, qP, qS, qD, rM, rP, rS, r13, hG, hC, hO, h9⟩ := id sq
    have hn := hG.2.1
    have h9t := h9 t (by omega)
    by_cases h0 : p t = 0
    · obtain ⟨x, y, hx, hy, hm, hmv, hh'⟩ := nxm_ex hG hC ht hh h0
      have hmv' := hmv
      unfold mv at hmv'
      rw [Bool.and_eq_true, Bool.and_eq_true, decide_eq_true_eq, decide_eq_true_eq] at hmv'
      obtain ⟨⟨h2, had⟩, h99⟩ := hmv'
      have hne : ¬ x = y := (hG.2.2 x y (by omega) had).2.2.1
      have hsx := sm_mem (f := p) hx
      have hsm := pmv_sm (n := n) hx hy hne h2
      have e1 : nI (10 * x + y) / 10 = nI x := by
        rw [show (10 : Int32) = nI 10 from rfl, pk_div (by omega) (by decide) (by decide), show (10 * x + y) / 10 = x by omega]
      have e2 : nI (10 * x + y) - nI (10 * x + y) / 10 * 10 = nI y := by
        rw [show (10 : Int32) = nI 10 from rfl, pk_rem (by omega) (by decide) (by decide), show (10 * x + y) % 10 = y by omega]
      obtain ⟨g, g1, g2⟩ := c24 qP (u := x) (v := y) (by omega) (by omega) h2
      obtain ⟨D, hD, d1, d2, d3, d4, d5, d6, d7, d8, d9⟩ := bd_pm V.board g (V.board.moveCount + 1)
      rw [hD] at g1
      obtain ⟨M1, m1, n1, n2, n5, n3, n4⟩ := m190 rP (u := x) (v := y) (by omega) (by omega) hne h2
      have sq1 : SQ n E (pmv p x y) sc tg wt pr D M1.now := sq.plq d1 d2 d3 d4 d5 d6 d7 (fun w hw => by rw [d8]; exact g2 w hw) n1 n2 (by rw [n5, r13, d9]) (pmv_le h9 (by omega) h99 hne)
      have c1 : G_89_44 (nI t) a (nI i, V) = some (.inl (nI (i + 1), V.w_board D)) := by
        simp only [G_89_44]
        rw [ixn (by omega) (by decide), Option.bind_some, qP t (by omega), h0, if_neg (fun z => z rfl), if_neg (show ¬ (5994 : Int32) ≤ nI i from nI_ge (b := 5994) (by omega) (by decide)), hf, Option.bind_some, c130 hf fR qB qP h9 hG hC ht, Option.bind_some]
        dsimp only
        rw [hm, pI_some, if_pos (nI_m1 (by omega)), e2, e1, g1, Option.bind_some, nI_1, Option.bind_some]
      have c2 : G_194_56 (nI t) (nI i, M) = some (.inl (nI (i + 1), M1)) := by
        simp only [G_194_56]
        rw [m176 rP (by omega), Option.bind_some, h0, if_neg (fun z => z rfl), m214 rM rP tb h9 hG hC ht, Option.bind_some]
        dsimp only
        rw [hm, pI_some, e2, e1, m1, Option.bind_some, nI_1]
      obtain ⟨j, D', M', f1, f2, f3, f4, f5⟩ := ih (i + 1) k1 k2 (pmv p x y) (V.w_board D) M1 (by omega) (by omega) (by omega) (by omega) ((fp_dyn (W := V) (X := V.w_board D) rfl a).trans hf) sq1 (tb.st (s190 m1)) hh'
      refine ⟨j, D', M', (lw_one c1).trans f1, (lw_one c2).trans f2, f3, ?_, f5.trans n4⟩
      obtain ⟨a1, a2, a3, a4, a5, a6, a7⟩ := n3
      obtain ⟨b1, b2, b3, b4, b5, b6, b7⟩ := f4
      exact ⟨b1.trans a1, b2.trans a2, b3.trans a3, b4.trans a4, b5.trans a5, b6.trans a6, b7.trans a7⟩
    · have hz : ¬ nI (p t) = 0 := nI_ne0 (by omega) (by omega)
      refine ⟨i, V.board, M, lw_end ?_, lw_end ?_, ⟨n, E, p, sc, tg, wt, pr, sq⟩, ⟨rfl, rfl, rfl, rfl, rfl, rfl, rfl⟩, rfl⟩
      · simp only [G_89_44]
        rw [ixn (by omega) (by decide), Option.bind_some, qP t (by omega), if_pos hz]
        rfl
      · simp only [G_194_56]
        rw [m176 rP (by omega), Option.bind_some, if_pos hz]
end RCH
section RCO
variable {k : Nat} {W : Wd}
theorem op9 (h : Sim k W) (hk : k < 90000) (x : Int32) : Ans k (F_271 W x) (fun M => F_194 M x) := by
  obtain ⟨y, hy, y1, y2⟩ := md_thrown W.md 0
  obtain ⟨n, E, pl, sc, tg, wt, pr, ⟨qB, qP, qS, qD, rM, rP, rS, r13, hG, hC, hO, h9⟩, hol, hfc, hd⟩ := h.op y2
  have hn := hG.2.1
  have h1 := hG.1
  have hE := hG.E_lt
  have h31 : ∀ v, v < 6 → pl v < 2 ^ 31 := fun v hv => by have := h9 v hv; omega
  have sq : SQ n E pl sc tg wt pr W.board y.now := ⟨qB, qP, qS, qD, rM, rP, rS, r13, hG, hC, hO, h9⟩
  have e172 : F_172 y x = some (bI (isv n x)) := m172 rM.1 (by omega) (by omega) x
  cases hv : isv n x with
  | true =>
    obtain ⟨v, hv', rfl⟩ := isv_of (by omega) hv
    rw [hv] at e172
    have hdy : W.dyn.length < 100000 := by omega
    obtain ⟨a, V, P, e129, vf, fR, fc, ff⟩ := c129 hfc qB qD hG hC hv' hdy
    have rg := ff.rg hol fc
    have vB : V.board = W.board := ff.2.1
    have vM : V.md = W.md := rg.2.2.2.2.2.1
    have vP : CP pl V.board := by rw [vB]; exact qP
    obtain ⟨M', m1, m2, m3⟩ := m209 rM hG hC hv'
    have mm := m2.mo
    have rM' : MR n E M'.now := by rw [mm.1.1]; exact rM
    have rP' : MP pl M'.now := by rw [mm.1.1]; exact rP
    have hm0 : F_194 W.md (nI v) = (if ¬ bI (!hold n E v pl) = 0 then J_194_0_j39 M' (nI v) 0 else J_194_0_j39 M' (nI v) 1) := by
      unfold F_194
      rw [hy, Option.bind_some, e172, Option.bind_some, m135t, Option.bind_some]
      dsimp only
      rw [if_pos rfl, m1, Option.bind_some, m210 rM' rP' m3 h31 hG hC hv', Option.bind_some]
    have hc0 : F_89 W (nI v) = (if bI (hold n E v pl) = 0 then J_89_0_j31 V (nI v) a else (F_128 V 6).bind fun (r35, B36) => xq r35 (fun X37 => some (.inr X37, B36)) fun u38 => J_89_0_j31 B36 (nI v) a) := by
      unfold F_89
      rw [c124t qB (by omega) hv', Option.bind_some]
      dsimp only
      rw [xq_l, e129, Option.bind_some]
      dsimp only
      rw [vf, Option.bind_some, c43 vf fR vP h31 hG hC hv', Option.bind_some]
    cases hh : hold n E v pl with
    | true =>
      rw [hh] at hm0 hc0
      rw [if_neg (by decide)] at hm0 hc0
      refine ans_no (v := 2) (B := (V.w_pp (V.pp.w_refusal 6)).thr) (u := 0) (o := (M'.w_reason 6).w_thrown 2) (by decide) ?_ ?_ rfl (h.ref rg (by decide) (y2.tr mm.1) 6 2)
      · unfold F_271
        rw [hc0, refuse]
        rfl
      · show F_194 V.md (nI v) = _
        rw [vM, hm0]
        rfl
    | false =>
      rw [hh] at hm0 hc0
      rw [if_pos (by decide)] at hm0 hc0
      obtain ⟨V1, M1, k1, k2, k3, k4, k5, k6, k7, k8⟩ := h.kept hk rg (by decide) (y2.tr mm.1)
      have hsm : sm pl n ≤ 5994 := by
        have := sm_le (f := pl) (c := 999) (n := n) (fun q hq => h9 q (by omega))
        exact Nat.le_trans this (Nat.mul_le_mul_right 999 hn)
      obtain ⟨j, D, o, f1, f2, f3, f4, f5⟩ := reach_l (a := a) hv' fR (sm pl n) 0 200000 200000 pl V1 M1 (Nat.le_refl _) (by omega) (by omega) (by omega) (k7 a P vf) (by rw [k3, k5, mm.1.1]; exact sq) (m3.st (s166 k2)) hh
      refine ans_ok (B := V1.w_board D) (u := nI j) (o := o) ?_ ?_ (f5.trans (k6.trans (mm.2.trans y1))) (k8 D o f4 f3)
      · have e : F_89 W (nI v) = some (.inl (nI j), V1.w_board D) := by
          rw [hc0]
          unfold J_89_0_j31
          rw [k1, Option.bind_some]
          show (lw (G_89_44 (nI v) a) 200000 (nI 0, V1)).bind _ = _
          rw [f1]
          rfl
        unfold F_271
        rw [e]
        rfl
      · rw [show (V1.w_board D).md = V1.md from rfl, k4]
        show F_194 W.md (nI v) = _
        rw [hm0]
        unfold J_194_0_j39
        rw [m180f, Option.bind_some]
        dsimp only
        rw [if_pos rfl, k2, Option.bind_some]
        show (lw (G_194_56 (nI v)) 200000 (nI 0, M1)).bind _ = _
        rw [f2]
        rfl
  | false =>
    rw [hv] at e172
    refine ans_no (v := 1) (B := W.thr) (u := 0) (o := y.w_thrown 1) (by decide) ?_ ?_ rfl (h.ex y2 1)
    · unfold F_271 F_89
      rw [c124f qB (by omega) hv]
      rfl
    · show F_194 W.md x = _
      unfold F_194
      rw [hy, Option.bind_some, e172, Option.bind_some, m135f]
      rfl
end RCO
