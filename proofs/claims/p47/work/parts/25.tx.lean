/-! ===== MORE FUEL DOES NO HARM; the texts ===== -/
theorem am_exec_fu {cf cg : Nat → List Value → AHp → Option ARe} (hcf : ∀ mi vs h r, cf mi vs h = some r → cg mi vs h = some r) {M : AMe} {d : Nat} {scr : ASc} {res : ARe} : ∀ (f f2 pc : Nat) (ls : ALs) (st : List Value) (h : AHp) (k n : Nat), f ≤ f2 → am_exec cf M d scr f (pc, ls, st, h, k, n) = some res → am_exec cg M d scr f2 (pc, ls, st, h, k, n) = some res
  | 0, _, _, _, _, _, _, _, _, hr => by cases hr
  | f + 1, 0, _, _, _, _, _, _, hl, _ => by omega
  | f + 1, f2 + 1, pc, ls, st, h, k, n, hl, hr => by
    have hl2 : f ≤ f2 := by omega
    obtain ⟨E, hE, ⟨hk, S, hS, h1⟩ | ⟨hk, v, hv, h1⟩ | ⟨hk, as, rest, Y, res1, ha, hp, hrv, hc, hsub⟩ | ⟨hk, h7, h5, hs, hh, h1⟩⟩ := am_exec_inv hr
    · rw [am_exec_step hE hk hS]
      exact am_exec_fu hcf f f2 _ _ _ _ _ _ hl2 h1
    · rw [am_exec, hE]
      simp only [hk, hv, h1]
    · rw [am_exec, hE]
      simp only [hk, ha, hp, hrv, if_true, hcf _ _ _ _ hc]
      obtain ⟨ro, hr1, kr, nr⟩ := res1
      rcases hsub with ⟨v, hv, h1⟩ | ⟨X, hX, hhs, h1⟩ | ⟨X, hp2, pc2, ls2, hX, hhd, hl3, h1⟩
      · dsimp only at hv h1
        subst hv
        exact am_exec_fu hcf f f2 _ _ _ _ _ _ hl2 h1
      · dsimp only at hX h1
        subst hX
        simp only [hhs, h1]
      · dsimp only at hX h1
        subst hX
        cases hhs : M.2.2.2.2.2.1 with
        | nil => rw [hhs] at hhd; cases hhd
        | cons q l =>
          rw [hhs] at hhd
          simp only [hhd, hl3]
          exact am_exec_fu hcf f f2 _ _ _ _ _ _ hl2 h1
    · rw [am_exec, hE]
      simp only [hk]
      rw [if_pos ⟨by omega, h5, hs, hh⟩, h1]
theorem am_call_fu (scr : ASc) : ∀ (d f f2 mi : Nat) (vs : List Value) (h : AHp) (r : ARe), f ≤ f2 → am_call scr d f mi vs h = some r → am_call scr d f2 mi vs h = some r
  | 0, _, _, _, _, _, _, _, hr => by cases hr
  | 1, _, _, _, _, _, _, _, hr => by cases hr
  | d + 2, f, f2, mi, vs, h, r, hl, hr => by
    unfold am_call at hr ⊢
    split at hr
    · cases hr
    · next M hM =>
      split at hr
      · next hl2 =>
        rw [if_pos hl2]
        exact am_exec_fu (fun mi vs h r => am_call_fu scr (d + 1) f f2 mi vs h r hl) f f2 _ _ _ _ _ _ hl hr
      · cases hr
theorem Rn_of {scr : ASc} {d f mi : Nat} {vs : List Value} {h : AHp} {r : ARe} (hr : am_call scr d f mi vs h = some r) : Rn scr d mi vs h r := ⟨f, fun g hg => am_call_fu scr d f g mi vs h r hg hr⟩
theorem am_txlen {scr : ASc} {H : AHp} : ∀ (k : Nat), k < 4 → Rn scr 3 255 [.ref (am_SB + 10 + 2 * k)] H (.inl (some (.int (Int32.ofNat (am_tx k).length))), H, 0, 0)
  | 0, _ => Rn_of (f := 40) rfl
  | 1, _ => Rn_of (f := 40) rfl
  | 2, _ => Rn_of (f := 40) rfl
  | 3, _ => Rn_of (f := 40) rfl
  | k + 4, hk => absurd hk (by omega)
theorem am_chr_ {scr : ASc} {H : AHp} : ∀ (k i : Nat), k < 4 → i < (am_tx k).length → Rn scr 6 256 [.ref (am_SB + 10 + 2 * k), .int (Int32.ofNat i)] H (.inl (some (.int ((am_tx k).getD i 0))), H, 0, 0)
  | 0, 0, _, _ => Rn_of (f := 60) rfl
  | 0, 1, _, _ => Rn_of (f := 60) rfl
  | 0, 2, _, _ => Rn_of (f := 60) rfl
  | 0, 3, _, _ => Rn_of (f := 60) rfl
  | 0, 4, _, _ => Rn_of (f := 60) rfl
  | 0, 5, _, _ => Rn_of (f := 60) rfl
  | 0, 6, _, _ => Rn_of (f := 60) rfl
  | 0, 7, _, _ => Rn_of (f := 60) rfl
  | 0, i + 8, _, hi => absurd hi (show ¬ i + 8 < 8 by omega)
  | 1, 0, _, _ => Rn_of (f := 60) rfl
  | 1, 1, _, _ => Rn_of (f := 60) rfl
  | 1, 2, _, _ => Rn_of (f := 60) rfl
  | 1, 3, _, _ => Rn_of (f := 60) rfl
  | 1, i + 4, _, hi => absurd hi (show ¬ i + 4 < 4 by omega)
  | 2, 0, _, _ => Rn_of (f := 60) rfl
  | 2, 1, _, _ => Rn_of (f := 60) rfl
  | 2, 2, _, _ => Rn_of (f := 60) rfl
  | 2, 3, _, _ => Rn_of (f := 60) rfl
  | 2, i + 4, _, hi => absurd hi (show ¬ i + 4 < 4 by omega)
  | 3, 0, _, _ => Rn_of (f := 60) rfl
  | 3, 1, _, _ => Rn_of (f := 60) rfl
  | 3, 2, _, _ => Rn_of (f := 60) rfl
  | 3, 3, _, _ => Rn_of (f := 60) rfl
  | 3, 4, _, _ => Rn_of (f := 60) rfl
  | 3, 5, _, _ => Rn_of (f := 60) rfl
  | 3, 6, _, _ => Rn_of (f := 60) rfl
  | 3, 7, _, _ => Rn_of (f := 60) rfl
  | 3, i + 8, _, hi => absurd hi (show ¬ i + 8 < 8 by omega)
  | k + 4, _, hk, _ => absurd hk (by omega)
theorem am_chr {scr : ASc} {H : AHp} {k i : Nat} {x : Int32} (hk : k < 4) (hi : ix x (am_tx k).length = some i) : Rn scr 6 256 [.ref (am_SB + 10 + 2 * k), .int x] H (.inl (some (.int ((am_tx k).getD i 0))), H, 0, 0) := by
  obtain ⟨⟨h0, h1⟩, h2⟩ := ix_some hi
  obtain ⟨j, hj⟩ := Int.eq_ofNat_of_zero_le h0
  have hji : j = i := by rw [← h2]; show j = x.toInt.toNat; rw [hj]; rfl
  subst hji
  have hl : (am_tx k).length ≤ 8 := by
    match k, hk with
    | 0, _ => decide
    | 1, _ => decide
    | 2, _ => decide
    | 3, _ => decide
  have hx : x = Int32.ofNat j := by
    apply Int32.toInt_inj.mp
    rw [hj, Int32.toInt_ofNat_of_lt (by omega)]
  rw [hx]
  exact am_chr_ k j hk (by omega)
theorem x_ldtn {d : Nat} {M : AMe} {scr : ASc} {res : ARe} {pc r1 r2 t p : Nat} {ls : ALs} {st : List Value} {h : AHp} {c n : Nat} {i : Fin 4} (hE : am_find M.2.2.2.2.2.2 pc = some (p, .aload_n i, r1, r2)) (hp : p = pc) (hl : ls[(i : Nat)]? = some (some (.ref (am_SB + 10 + 2 * t)))) (ht : t < 4) (k : Ex d M scr (pc + 1, ls, .ref (am_SB + 10 + 2 * t) :: st, h, c, n) res) : Ex d M scr (pc, ls, st, h, c, n) res := by
  subst hp
  refine x_s hE rfl (S := (p + 1, ls, .ref (am_SB + 10 + 2 * t) :: st, h, 0, 0)) ?_ k
  delta am_step am_lda
  dsimp only
  rw [hl]
theorem am_recv_t {q k r1 : Nat} {as : List Value} {h : AHp} (hk : k < 4) : am_recv (.invokevirtual q) r1 "java/lang/String" (.ref (am_SB + 10 + 2 * k) :: as) h = true := by
  delta am_recv
  dsimp only
  rw [if_neg (show ¬ am_SB + 10 + 2 * k < am_SB by generalize am_SB = s; omega)]
  have h1 : (am_SB + 10 + 2 * k - (am_SB + 10)) % 2 = 0 := by rw [Nat.add_sub_cancel_left]; exact Nat.mul_mod_right 2 k
  have h2 : am_SB + 10 + 2 * k < am_SB + 64 := by generalize am_SB = s; omega
  exact decide_eq_true ⟨⟨h1, Nat.le_add_right _ _, h2⟩, rfl⟩
