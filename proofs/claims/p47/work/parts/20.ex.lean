/-! ===== RUNS OF THE ABSTRACT MACHINE: with fuel enough ===== -/
def Ex (d : Nat) (M : AMe) (scr : ASc) (S : ASt) (res : ARe) : Prop := ∃ f0, ∀ f g, f0 ≤ f → f0 ≤ g → am_exec (am_call scr d g) M d scr f S = some res
def Rn (scr : ASc) (d mi : Nat) (vs : List Value) (h : AHp) (res : ARe) : Prop := ∃ f0, ∀ g, f0 ≤ g → am_call scr d g mi vs h = some res
theorem am_exec_step {cf : Nat → List Value → AHp → Option ARe} {M : AMe} {d : Nat} {scr : ASc} {f pc : Nat} {ls : ALs} {st : List Value} {h : AHp} {k n : Nat} {E : AEn} {S : ASt} (hE : am_find M.2.2.2.2.2.2 pc = some E) (hk : am_kind E.2.1 E.2.2.1 = 0) (hs : am_step scr E ls st h = some S) : am_exec cf M d scr (f + 1) (pc, ls, st, h, k, n) = am_exec cf M d scr f (S.1, S.2.1, S.2.2.1, S.2.2.2.1, k + S.2.2.2.2.1, n + S.2.2.2.2.2) := by
  rw [am_exec, hE]
  simp only [hk, hs]
section EX
variable {d : Nat} {M : AMe} {scr : ASc} {res : ARe} {pc : Nat} {ls : ALs} {st : List Value} {h : AHp} {c n : Nat}
theorem x_s {E : AEn} {S : ASt} (hE : am_find M.2.2.2.2.2.2 pc = some E) (hk : am_kind E.2.1 E.2.2.1 = 0) (hs : am_step scr E ls st h = some S) (k : Ex d M scr (S.1, S.2.1, S.2.2.1, S.2.2.2.1, c + S.2.2.2.2.1, n + S.2.2.2.2.2) res) : Ex d M scr (pc, ls, st, h, c, n) res := by
  obtain ⟨f0, hf⟩ := k
  refine ⟨f0 + 1, fun f g h1 h2 => ?_⟩
  obtain ⟨f, rfl⟩ : ∃ f', f = f' + 1 := ⟨f - 1, by omega⟩
  rw [am_exec_step hE hk hs]
  exact hf f g (by omega) (by omega)
/-- several instructions that stay in the frame -/
def am_run (M : AMe) (scr : ASc) : Nat → ASt → Option ASt
  | 0, S => some S
  | j + 1, (pc, ls, st, h, k, n) => match am_find M.2.2.2.2.2.2 pc with
    | none => none
    | some E => match am_kind E.2.1 E.2.2.1 with
      | 0 => match am_step scr E ls st h with
        | none => none
        | some S => am_run M scr j (S.1, S.2.1, S.2.2.1, S.2.2.2.1, k + S.2.2.2.2.1, n + S.2.2.2.2.2)
      | _ => none
theorem x_b (j : Nat) {S S2 : ASt} (hs : am_run M scr j S = some S2) (k : Ex d M scr S2 res) : Ex d M scr S res := by
  induction j generalizing S with
  | zero => cases hs; exact k
  | succ j ih =>
    obtain ⟨pc, ls, st, h, c, n⟩ := S
    rw [am_run] at hs
    split at hs
    · cases hs
    · next E hE =>
      split at hs
      · next hk =>
        split at hs
        · cases hs
        · next S3 hS => exact x_s hE hk hS (ih hs)
      · cases hs
/-- an end -/
theorem x_ret {E : AEn} {v : Option Value} (hE : am_find M.2.2.2.2.2.2 pc = some E) (hk : am_kind E.2.1 E.2.2.1 = 1) (hv : am_ret M.2.2.2.2.1 E.2.1 st = some v) : Ex d M scr (pc, ls, st, h, c, n) (.inl v, h, c, n) := by
  refine ⟨1, fun f g h1 h2 => ?_⟩
  obtain ⟨f, rfl⟩ : ∃ f', f = f' + 1 := ⟨f - 1, by omega⟩
  rw [am_exec, hE]
  simp only [hk, hv]
theorem x_throw {E : AEn} (hE : am_find M.2.2.2.2.2.2 pc = some E) (hk : am_kind E.2.1 E.2.2.1 = 3) (h7 : 7 ≤ d) (h5 : E.2.2.2 < 3) (hsum : (st.map Value.category).sum ≤ 8) (hhs : M.2.2.2.2.2.1 = []) : Ex d M scr (pc, ls, st, h, c, n) (.inr E.2.2.2, h, c + 1, n + 6) := by
  refine ⟨1, fun f g h1 h2 => ?_⟩
  obtain ⟨f, rfl⟩ : ∃ f', f = f' + 1 := ⟨f - 1, by omega⟩
  rw [am_exec, hE]
  simp only [hk]
  rw [if_pos ⟨h7, h5, hsum, hhs⟩]
end EX
/-- more depth does no harm -/
theorem am_exec_cf {cf cg : Nat → List Value → AHp → Option ARe} (hcf : ∀ mi vs h r, cf mi vs h = some r → cg mi vs h = some r) {M : AMe} {d d2 : Nat} (hd : d ≤ d2) {scr : ASc} {res : ARe} : ∀ (f pc : Nat) (ls : ALs) (st : List Value) (h : AHp) (k n : Nat), am_exec cf M d scr f (pc, ls, st, h, k, n) = some res → am_exec cg M d2 scr f (pc, ls, st, h, k, n) = some res
  | 0, _, _, _, _, _, _, hr => by cases hr
  | f + 1, pc, ls, st, h, k, n, hr => by
    obtain ⟨E, hE, ⟨hk, S, hS, h1⟩ | ⟨hk, v, hv, h1⟩ | ⟨hk, as, rest, Y, res1, ha, hp, hrv, hc, hsub⟩ | ⟨hk, h7, h5, hs, hh, h1⟩⟩ := am_exec_inv hr
    · rw [am_exec_step hE hk hS]
      exact am_exec_cf hcf hd f _ _ _ _ _ _ h1
    · rw [am_exec, hE]
      simp only [hk, hv, h1]
    · rw [am_exec, hE]
      simp only [hk, ha, hp, hrv, if_true, hcf _ _ _ _ hc]
      obtain ⟨ro, hr1, kr, nr⟩ := res1
      rcases hsub with ⟨v, hv, h1⟩ | ⟨X, hX, hhs, h1⟩ | ⟨X, hp2, pc2, ls2, hX, hhd, hl2, h1⟩
      · dsimp only at hv h1
        subst hv
        exact am_exec_cf hcf hd f _ _ _ _ _ _ h1
      · dsimp only at hX h1
        subst hX
        simp only [hhs, h1]
      · dsimp only at hX h1
        subst hX
        cases hhs : M.2.2.2.2.2.1 with
        | nil => rw [hhs] at hhd; cases hhd
        | cons q l =>
          rw [hhs] at hhd
          simp only [hhd, hl2]
          exact am_exec_cf hcf hd f _ _ _ _ _ _ h1
    · rw [am_exec, hE]
      simp only [hk]
      rw [if_pos ⟨by omega, h5, hs, hh⟩, h1]
theorem am_call_mono (scr : ASc) : ∀ (d f mi : Nat) (vs : List Value) (h : AHp) (r : ARe), am_call scr d f mi vs h = some r → am_call scr (d + 1) f mi vs h = some r
  | 0, _, _, _, _, _, hr => by cases hr
  | 1, _, _, _, _, _, hr => by cases hr
  | d + 2, f, mi, vs, h, r, hr => by
    unfold am_call at hr ⊢
    split at hr
    · cases hr
    · next M hM =>
      split at hr
      · next hl =>
        rw [if_pos hl]
        exact am_exec_cf (fun mi vs h r => am_call_mono scr (d + 1) f mi vs h r) (Nat.le_succ _) f _ _ _ _ _ _ hr
      · cases hr
theorem Rn.up {scr : ASc} {d d2 mi : Nat} {vs : List Value} {h : AHp} {res : ARe} (hr : Rn scr d mi vs h res) (hd : d ≤ d2) : Rn scr d2 mi vs h res := by
  obtain ⟨f0, hf⟩ := hr
  refine ⟨f0, fun g hg => ?_⟩
  induction hd with
  | refl => exact hf g hg
  | step _ ih => exact am_call_mono scr _ g mi vs h res ih
section EX2
variable {d : Nat} {M : AMe} {scr : ASc} {res : ARe} {pc : Nat} {ls : ALs} {st : List Value} {h : AHp} {c n : Nat}
/-- a call that returns -/
theorem x_call {d2 : Nat} {E : AEn} {Y : AMe} {as rest : List Value} {v : Option Value} {h2 : AHp} {dk dn : Nat} (hr : Rn scr d2 E.2.2.1 as h (.inl v, h2, dk, dn)) (hd : d2 ≤ d) (hE : am_find M.2.2.2.2.2.2 pc = some E) (hk : am_kind E.2.1 E.2.2.1 = 2) (ha : am_args E.2.2.2 st = some (as, rest)) (hp : am_prog E.2.2.1 = some Y) (hrv : am_recv E.2.1 E.2.2.1 Y.1.cls as h = true)
    (k : Ex d M scr (pc + am_nx E.2.1, ls, v.toList ++ rest, h2, c + dk, n + dn) res) : Ex d M scr (pc, ls, st, h, c, n) res := by
  obtain ⟨f0, hf⟩ := k
  obtain ⟨g0, hg⟩ := hr.up hd
  refine ⟨f0 + g0 + 1, fun f g h1 h3 => ?_⟩
  obtain ⟨f, rfl⟩ : ∃ f', f = f' + 1 := ⟨f - 1, by omega⟩
  rw [am_exec, hE]
  simp only [hk, ha, hp, hrv, if_true, hg g (by omega)]
  exact hf f g (by omega) (by omega)
/-- a call that throws, in a method without handlers -/
theorem x_callX {d2 : Nat} {E : AEn} {Y : AMe} {as rest : List Value} {i : Nat} {h2 : AHp} {dk dn : Nat} (hr : Rn scr d2 E.2.2.1 as h (.inr i, h2, dk, dn)) (hd : d2 ≤ d) (hE : am_find M.2.2.2.2.2.2 pc = some E) (hk : am_kind E.2.1 E.2.2.1 = 2) (ha : am_args E.2.2.2 st = some (as, rest)) (hp : am_prog E.2.2.1 = some Y) (hrv : am_recv E.2.1 E.2.2.1 Y.1.cls as h = true) (hhs : M.2.2.2.2.2.1 = []) : Ex d M scr (pc, ls, st, h, c, n) (.inr i, h2, c + dk, n + dn) := by
  obtain ⟨g0, hg⟩ := hr.up hd
  refine ⟨g0 + 1, fun f g h1 h3 => ?_⟩
  obtain ⟨f, rfl⟩ : ∃ f', f = f' + 1 := ⟨f - 1, by omega⟩
  rw [am_exec, hE]
  simp only [hk, ha, hp, hrv, if_true, hg g (by omega), hhs]
/-- a call that throws, caught -/
theorem x_callH {d2 : Nat} {E : AEn} {Y : AMe} {as rest : List Value} {i hp2 pc2 : Nat} {ls2 : ALs} {h2 : AHp} {dk dn : Nat} (hr : Rn scr d2 E.2.2.1 as h (.inr i, h2, dk, dn)) (hd : d2 ≤ d) (hE : am_find M.2.2.2.2.2.2 pc = some E) (hk : am_kind E.2.1 E.2.2.1 = 2) (ha : am_args E.2.2.2 st = some (as, rest)) (hp : am_prog E.2.2.1 = some Y) (hrv : am_recv E.2.1 E.2.2.1 Y.1.cls as h = true) (hhd : am_hand M.2.2.2.2.2.1 pc i = some hp2) (hl2 : am_land M hp2 ls = some (pc2, ls2))
    (k : Ex d M scr (pc2, ls2, [], h2, c + dk, n + dn) res) : Ex d M scr (pc, ls, st, h, c, n) res := by
  obtain ⟨f0, hf⟩ := k
  obtain ⟨g0, hg⟩ := hr.up hd
  refine ⟨f0 + g0 + 1, fun f g h1 h3 => ?_⟩
  obtain ⟨f, rfl⟩ : ∃ f', f = f' + 1 := ⟨f - 1, by omega⟩
  rw [am_exec, hE]
  simp only [hk, ha, hp, hrv, if_true, hg g (by omega)]
  cases hhs : M.2.2.2.2.2.1 with
  | nil => rw [hhs] at hhd; cases hhd
  | cons q l =>
    rw [hhs] at hhd
    simp only [hhd, hl2]
    exact hf f g (by omega) (by omega)
/-- a method, from its entry -/
theorem x_meth {mi : Nat} {vs : List Value} (hM : am_prog mi = some M) (hl : (am_slots vs).length ≤ M.2.2.1) (k : Ex (d + 1) M scr (0, am_entry M.2.2.1 vs, [], h, 0, 0) res) : Rn scr (d + 2) mi vs h res := by
  obtain ⟨f0, hf⟩ := k
  refine ⟨f0, fun g hg => ?_⟩
  unfold am_call
  simp only [hM, if_pos hl]
  exact hf g g hg hg
end EX2
