/-! ===== THE FIRST MOVE ===== -/
theorem i32_back (x y : Int32) : x - y + y = x := by
  apply Int32.toBitVec_inj.mp
  show x.toBitVec - y.toBitVec + y.toBitVec = x.toBitVec
  exact BitVec.sub_add_cancel _ _
theorem i32_back2 (x y : Int32) : x + y - y = x := by
  apply Int32.toBitVec_inj.mp
  show x.toBitVec + y.toBitVec - y.toBitVec = x.toBitVec
  exact BitVec.add_sub_cancel _ _
/-- a move that leads on -/
def gd (n E t : Nat) (p : Nat → Nat) (u v : Nat) : Bool := mv E p u v && !hold n E t (pmv p u v)
def nmv (n E t : Nat) (p : Nat → Nat) : Nat → Nat → Option Nat
  | _, 0 => none
  | u, j + 1 => match ffs (gd n E t p u) 0 n with
    | some v => some (10 * u + v)
    | none => nmv n E t p (u + 1) j
def nxm (n E t : Nat) (p : Nat → Nat) : Option Nat := nmv n E t p 0 n
section FN
variable {n E t : Nat}
theorem ffs_some {P : Nat → Bool} : ∀ {i j q : Nat}, ffs P i j = some q → i ≤ q ∧ q < i + j ∧ P q = true
  | i, j + 1, q, h => by
    rw [ffs] at h
    split at h
    · next h1 => cases h; exact ⟨Nat.le_refl _, by omega, h1⟩
    · have := ffs_some h; exact ⟨by omega, by omega, this.2.2⟩
theorem ffs_none {P : Nat → Bool} : ∀ {i j : Nat}, ffs P i j = none → ∀ q, i ≤ q → q < i + j → P q = false
  | i, 0, _, q, h1, h2 => by omega
  | i, j + 1, h, q, h1, h2 => by
    rw [ffs] at h
    split at h
    · cases h
    · next h3 =>
      by_cases h4 : q = i
      · subst h4; simpa using h3
      · exact ffs_none h q (by omega) (by omega)
theorem nmv_some {p : Nat → Nat} : ∀ {u j m : Nat}, nmv n E t p u j = some m → ∃ x y, x < u + j ∧ y < n ∧ m = 10 * x + y ∧ gd n E t p x y = true
  | u, j + 1, m, h => by
    rw [nmv] at h
    split at h
    · next v hv =>
      cases h
      obtain ⟨-, h2, h3⟩ := ffs_some hv
      exact ⟨u, v, by omega, by omega, rfl, h3⟩
    · obtain ⟨x, y, h1, h2, h3, h4⟩ := nmv_some h
      exact ⟨x, y, by omega, h2, h3, h4⟩
theorem nmv_none {p : Nat → Nat} : ∀ {u j : Nat}, nmv n E t p u j = none → ∀ x y, u ≤ x → x < u + j → y < n → gd n E t p x y = false
  | u, 0, _, x, y, h1, h2, _ => by omega
  | u, j + 1, h, x, y, h1, h2, h3 => by
    rw [nmv] at h
    split at h
    · cases h
    · next hv =>
      by_cases h4 : x = u
      · subst h4; exact ffs_none hv y (Nat.zero_le _) (by omega)
      · exact nmv_none h x y (by omega) (by omega) h3
/-- a move tried -/
theorem c131 {W : Wd} {a : Nat} {P : FP} {p : Nat → Nat} (ha : W.fp a = some P) (hP : FR n E t P) (hp : CP p W.board) (hp9 : ∀ v, v < 6 → p v ≤ 999) (h : Gr n E) (hc : Cn n E) (ht : t < n) {u v : Nat} (hu : u < 6) (hv : v < 6) (hne : ¬ u = v) (h2 : 2 ≤ p u) : F_131 W (nI u) (nI v) a = some (bI (hold n E t (pmv p u v)), W) := by
  have e5 : ∀ f g, (W.w_board (W.board.w_pile f)).w_board (((W.w_board (W.board.w_pile f)).board).w_pile g) = W.w_board (W.board.w_pile g) := fun _ _ => rfl
  have hB : W.w_board (W.board.w_pile W.board.pile) = W := rfl
  obtain ⟨f1, hf1⟩ : ∃ f1, upd W.board.pile u (W.board.pile u - 2) = f1 := ⟨_, rfl⟩
  obtain ⟨f2, hf2⟩ : ∃ f2, upd f1 v (f1 v + 1) = f2 := ⟨_, rfl⟩
  have hCP : CP (pmv p u v) (W.w_board (W.board.w_pile f2)).board := by
    intro w hw
    show f2 w = _
    have e1 : W.board.pile u - 2 = nI (p u - 2) := by rw [hp u hu, z2, pk_sub h2]
    rw [← hf2]
    unfold pmv
    by_cases h3 : w = v
    · subst h3
      rw [pk_us, if_pos rfl, if_neg (fun q => hne q.symm), ← hf1, pk_un (fun q => hne q.symm), hp w hw, nI_1]
    · rw [pk_un h3, if_neg h3, ← hf1]
      by_cases h4 : w = u
      · subst h4; rw [pk_us, if_pos rfl, e1]
      · rw [pk_un h4, if_neg h4, hp w hw]
  have ha2 : (W.w_board (W.board.w_pile f2)).fp a = some P := by rw [fp_dyn (X := W.w_board (W.board.w_pile f2)) (W := W) rfl]; exact ha
  have hpm : ∀ w, w < 6 → pmv p u v w < 2 ^ 31 := fun w hw => by
    have := hp9 w hw
    have := hp9 u hu
    have := hp9 v hv
    unfold pmv
    repeat' split
    all_goals omega
  have e43 := c43 ha2 hP hCP hpm h hc ht
  have hback : upd (upd f2 u (f2 u + 2)) v (upd f2 u (f2 u + 2) v - 1) = W.board.pile := by
    funext w
    by_cases h3 : w = v
    · subst h3
      rw [pk_us, pk_un (fun q => hne q.symm), ← hf2, pk_us, ← hf1, pk_un (fun q => hne q.symm)]
      exact i32_back2 _ _
    · rw [pk_un h3]
      by_cases h4 : w = u
      · subst h4
        rw [pk_us, ← hf2, pk_un h3, ← hf1, pk_us]
        exact i32_back _ _
      · rw [pk_un h4, ← hf2, pk_un h3, ← hf1, pk_un h4]
  unfold F_131
  rw [ixn hu (by decide), Option.bind_some, hf1, Option.bind_some, Option.bind_some, ixn hv (by decide), Option.bind_some]
  rw [show (W.w_board (W.board.w_pile f1)).board.pile = f1 from rfl, hf2, Option.bind_some, Option.bind_some, e5, ha2, Option.bind_some, e43, Option.bind_some]
  rw [show (W.w_board (W.board.w_pile f2)).board.pile = f2 from rfl, Option.bind_some, Option.bind_some, e5, show (W.w_board (W.board.w_pile (upd f2 u (f2 u + 2)))).board.pile = upd f2 u (f2 u + 2) from rfl, hback, Option.bind_some, Option.bind_some, e5, bI_ok, hB]
theorem c130 {W : Wd} {a : Nat} {P : FP} {p : Nat → Nat} (ha : W.fp a = some P) (hP : FR n E t P) (hB : CB n E W.board) (hp : CP p W.board) (hp9 : ∀ v, v < 6 → p v ≤ 999) (h : Gr n E) (hc : Cn n E) (ht : t < n) : F_130 W a = some (pI (nxm n E t p), W) := by
  have hn := h.2.1
  have hp31 : ∀ v, v < 6 → p v < 2 ^ 31 := fun v hv => by have := hp9 v hv; omega
  have inner : ∀ u, u < n → ∃ x, lw (G_130_15 a (nI u)) 200000 (0, W) = some x ∧ ((ffs (gd n E t p u) 0 n = none ∧ x = .inl W) ∨ ∃ v, ffs (gd n E t p u) 0 n = some v ∧ x = .inr (nI (10 * u + v), W)) := by
    intro u hu
    refine lw_for (n := n) (fun i st => st = (nI i, W) ∧ ffs (gd n E t p u) 0 n = ffs (gd n E t p u) i (n - i)) ?_ ?_ ⟨rfl, by rw [Nat.sub_zero]⟩ (by omega)
    · rintro i st hi ⟨rfl, h1⟩
      have hne : mv E p u i = true → ¬ u = i := fun q => by
        unfold mv at q
        rw [Bool.and_eq_true, Bool.and_eq_true] at q
        exact h.ne hi q.1.2
      have h2 : mv E p u i = true → 2 ≤ p u := fun q => by
        unfold mv at q
        rw [Bool.and_eq_true, Bool.and_eq_true, decide_eq_true_eq] at q
        exact q.1.1
      obtain ⟨k, hk⟩ : ∃ k, n - i = k + 1 := ⟨n - i - 1, by omega⟩
      have hk2 : n - (i + 1) = k := by omega
      rw [hk, ffs] at h1
      simp only [G_130_15, J_130_15_j55]
      rw [hB.1, if_neg (nI_ge hi (by omega)), c23 hB hp h.E_lt hp31 (by omega) (by omega), Option.bind_some]
      by_cases hm : mv E p u i = true
      · rw [if_neg (by rw [bI_0]; exact fun q => q hm), ha, Option.bind_some, c131 ha hP hp hp9 h hc ht (by omega) (by omega) (hne hm) (h2 hm), Option.bind_some]
        by_cases hh : hold n E t (pmv p u i) = true
        · left
          have : gd n E t p u i = false := by unfold gd; rw [hh]; simp
          rw [this] at h1
          refine ⟨(nI (i + 1), W), ?_, rfl, by rw [hk2]; simpa using h1⟩
          dsimp only
          rw [if_pos (by rw [bI_0]; exact fun q => q hh), nI_1]
        · right
          have : gd n E t p u i = true := by unfold gd; rw [hm]; simpa using hh
          rw [this, if_pos rfl] at h1
          refine ⟨.inr (nI (10 * u + i), W), ?_, .inr ⟨i, h1, rfl⟩⟩
          dsimp only
          rw [if_neg (by rw [bI_0]; exact fun q => q hh), z10, pk_mul, nI_add]
      · left
        have : gd n E t p u i = false := by unfold gd; rw [(by simpa using hm : mv E p u i = false)]; rfl
        rw [this] at h1
        refine ⟨(nI (i + 1), W), ?_, rfl, by rw [hk2]; simpa using h1⟩
        rw [if_pos (bI_0.mpr hm), nI_1]
    · rintro st ⟨rfl, h1⟩
      refine ⟨.inl W, ?_, .inl ⟨?_, rfl⟩⟩
      · simp only [G_130_15]
        rw [hB.1, if_pos (nI_le (Nat.le_refl _) (by omega))]
      · rw [h1, Nat.sub_self]; rfl
  obtain ⟨x, e1, hx1⟩ : ∃ x, lw (G_130_2 a) 200000 (0, W) = some x ∧ ((nxm n E t p = none ∧ x = .inl W) ∨ ∃ m, nxm n E t p = some m ∧ x = .inr (nI m, W)) := by
    refine lw_for (n := n) (fun i st => st = (nI i, W) ∧ nxm n E t p = nmv n E t p i (n - i)) ?_ ?_ ⟨rfl, by rw [Nat.sub_zero]; rfl⟩ (by omega)
    · rintro i st hi ⟨rfl, h1⟩
      obtain ⟨k, hk⟩ : ∃ k, n - i = k + 1 := ⟨n - i - 1, by omega⟩
      have hk2 : n - (i + 1) = k := by omega
      rw [hk, nmv] at h1
      obtain ⟨x, e1, ⟨q1, rfl⟩ | ⟨v, q1, rfl⟩⟩ := inner i hi
      · left
        rw [q1] at h1
        refine ⟨(nI (i + 1), W), ?_, rfl, by rw [hk2]; exact h1⟩
        simp only [G_130_2]
        rw [hB.1, if_neg (nI_ge hi (by omega)), e1, Option.bind_some, nI_1]
      · right
        rw [q1] at h1
        refine ⟨.inr (nI (10 * i + v), W), ?_, .inr ⟨_, h1, rfl⟩⟩
        simp only [G_130_2]
        rw [hB.1, if_neg (nI_ge hi (by omega)), e1, Option.bind_some]
    · rintro st ⟨rfl, h1⟩
      refine ⟨.inl W, ?_, .inl ⟨?_, rfl⟩⟩
      · simp only [G_130_2]
        rw [hB.1, if_pos (nI_le (Nat.le_refl _) (by omega))]
      · rw [h1, Nat.sub_self]; rfl
  unfold F_130
  rw [e1, Option.bind_some]
  rcases hx1 with ⟨q, rfl⟩ | ⟨m, q, rfl⟩
  · rw [q]; rfl
  · rw [q]; rfl
/-- where a target can be reached, a move leads on -/
theorem gd_ex (h : Gr n E) (hc : Cn n E) (ht : t < n) {p : Nat → Nat} (hh : hold n E t p = false) (h0 : p t = 0) : ∃ u v, u < n ∧ v < n ∧ gd n E t p u v = true := by
  obtain ⟨par, hp⟩ := ds_pa h hc ht
  have hn := h.2.1
  by_cases hin : inb n (ds n E t) p = true
  · have hb := inb_iff.mp hin
    have hlt := hx_lt (w := ds n E t) hb
    unfold hold at hh
    rw [hin, Bool.true_and] at hh
    have h1 : ¬ ∀ v o, v < n → o < n → 2 ≤ dg (ds n E t) n (hx (ds n E t) p n) v → ad E v o = true → dg (ds n E t) n (hx (ds n E t) p n) o + 1 < 2 ^ ds n E t o ∧ fa n (ad E) (ds n E t) (mvc (ds n E t) n (hx (ds n E t) p n) v o) = true := by
      intro q
      have := (fa_iff h.ir hlt).mpr q
      rw [hh] at this
      cases this
    refine Classical.byContradiction fun hno => h1 fun v o hv ho h2 ha => ?_
    rw [dg_hx hb hv] at h2
    have hpo := hb o ho
    have hdo := hc.ds h ht ho
    have h32 : 2 ^ ds n E t o ≤ 2 ^ 5 := pw_lt (by omega)
    have hmv : mv E p v o = true := by unfold mv; rw [decide_eq_true h2, ha, decide_eq_true (show p o < 999 by omega)]; rfl
    have hgd : gd n E t p v o = false := by
      cases hg : gd n E t p v o with
      | false => rfl
      | true => exact absurd ⟨v, o, hv, ho, hg⟩ hno
    unfold gd at hgd
    rw [hmv, Bool.true_and, Bool.not_eq_false'] at hgd
    unfold hold at hgd
    rw [Bool.and_eq_true] at hgd
    have hb2 := inb_iff.mp hgd.1
    have hne := h.ne ho ha
    have hro : p o + 1 < 2 ^ ds n E t o := by
      have := hb2 o ho
      unfold pmv at this
      rw [if_pos rfl, if_neg (fun q => hne q.symm)] at this
      exact this
    rw [dg_hx hb ho]
    refine ⟨hro, ?_⟩
    have hm := mv_ok hlt hv ho hne (by rw [dg_hx hb hv]; exact h2) (by rw [dg_hx hb ho]; exact hro)
    have e1 : mvc (ds n E t) n (hx (ds n E t) p n) v o = hx (ds n E t) (pmv p v o) n := by
      refine dg_ext hm.1 (hx_lt hb2) fun w hw => ?_
      rw [hm.2.2.1 w hw, dg_hx hb2 hw, dg_hx hb hv, dg_hx hb ho]
      unfold pmv
      by_cases q1 : w = o
      · subst q1; rw [if_pos rfl, if_pos rfl, if_neg (fun q => hne q.symm)]
      · rw [if_neg q1, if_neg q1]
        by_cases q2 : w = v
        · subst q2; rw [if_pos rfl, if_pos rfl]
        · rw [if_neg q2, if_neg q2, dg_hx hb hw]
    rw [e1]
    exact hgd.2
  · -- some vertex has its whole power: the nearest such
    have hex : ∃ v, v < n ∧ 2 ^ ds n E t v ≤ p v := Classical.byContradiction fun q => hin (inb_iff.mpr fun v hv => by
      rcases Nat.lt_or_ge (p v) (2 ^ ds n E t v) with q2 | q2
      · exact q2
      · exact absurd ⟨v, hv, q2⟩ q)
    have key : ∀ d, ∀ v, v < n → ds n E t v = d → 2 ^ ds n E t v ≤ p v → ∃ u, u < n ∧ 2 ^ ds n E t u ≤ p u ∧ ∀ w, w < n → ds n E t w < ds n E t u → p w < 2 ^ ds n E t w := by
      intro d
      induction d using Nat.strongRecOn with
      | _ d ih =>
        intro v hv hd hpv
        by_cases q : ∀ w, w < n → ds n E t w < ds n E t v → p w < 2 ^ ds n E t w
        · exact ⟨v, hv, hpv, q⟩
        · obtain ⟨w, hw⟩ := Classical.not_forall.mp q
          have hw1 : w < n ∧ ds n E t w < ds n E t v ∧ 2 ^ ds n E t w ≤ p w := by
            refine Classical.byContradiction fun q2 => hw fun q3 q4 => ?_
            rcases Nat.lt_or_ge (p w) (2 ^ ds n E t w) with q5 | q5
            · exact q5
            · exact absurd ⟨q3, q4, q5⟩ q2
          exact ih (ds n E t w) (by omega) w hw1.1 rfl hw1.2.2
    obtain ⟨v, hv, hpv⟩ := hex
    obtain ⟨u, hu, hpu, hmin⟩ := key _ v hv rfl hpv
    have hd1 : 1 ≤ ds n E t u := by
      rcases Nat.lt_or_ge 0 (ds n E t u) with q | q
      · exact q
      · exfalso
        have := ds_zero (show ds n E t u = 0 by omega)
        subst this
        have := Nat.one_le_two_pow (n := ds n E t t)
        omega
    obtain ⟨p1, p2, p3⟩ := hp u hu hd1
    have hne := h.ne p1 p2
    have hpo := hmin (par u) p1 (by omega)
    have hdo := hc.ds h ht p1
    have h32 : 2 ^ ds n E t (par u) ≤ 2 ^ 5 := pw_lt (by omega)
    have h2 : 2 ≤ p u := by
      have : 2 ^ 1 ≤ 2 ^ ds n E t u := pw_lt hd1
      omega
    refine ⟨u, par u, hu, p1, ?_⟩
    have hmv : mv E p u (par u) = true := by unfold mv; rw [decide_eq_true h2, p2, decide_eq_true (show p (par u) < 999 by omega)]; rfl
    unfold gd
    rw [hmv, Bool.true_and, Bool.not_eq_true']
    cases hq : hold n E t (pmv p u (par u)) with
    | false => rfl
    | true =>
      exfalso
      unfold hold at hq
      rw [Bool.and_eq_true] at hq
      have hb2 := inb_iff.mp hq.1
      have b1 := fa_sx h.ir hp _ _ u (Nat.le_refl _) (hx_lt hb2) hu hq.2
      have e1 : sx (dg (ds n E t) n (hx (ds n E t) (pmv p u (par u)) n)) par (ds n E t u) u = sx (pmv p u (par u)) par (ds n E t u) u := sx_cong hp hu rfl fun w hw _ => dg_hx hb2 hw
      rw [e1] at b1
      obtain ⟨d, hd⟩ : ∃ d, ds n E t u = d + 1 := ⟨ds n E t u - 1, by omega⟩
      rw [hd] at b1 hpu
      have e2 : pmv p u (par u) u = p u - 2 := by unfold pmv; rw [if_neg hne, if_pos rfl]
      have e3 : pmv p u (par u) (par u) = p (par u) + 1 := by unfold pmv; rw [if_pos rfl, if_neg (fun q => hne q.symm)]
      rw [sx, e2] at b1
      cases d with
      | zero =>
        -- the parent is the target: no room
        have := hb2 (par u) p1
        rw [e3, show ds n E t (par u) = 0 by omega, Nat.pow_zero] at this
        omega
      | succ d =>
        rw [sx, e3] at b1
        omega
end FN
