/-! ===== the simulation: a whole frame, a whole call ===== -/
theorem am_kind_le (i : Instr) (r : Nat) : am_kind i r ≤ 3 := by
  unfold am_kind
  split <;> (try split) <;> decide
/-- a step of the abstract machine, backwards -/
theorem am_exec_inv {cf : Nat → List Value → AHp → Option ARe} {M : AMe} {d : Nat} {scr : ASc} {f pc : Nat} {ls : ALs} {st : List Value} {h : AHp} {k n : Nat} {res : ARe} (hr : am_exec cf M d scr (f + 1) (pc, ls, st, h, k, n) = some res) :
    ∃ E, am_find M.2.2.2.2.2.2 pc = some E ∧
      ((am_kind E.2.1 E.2.2.1 = 0 ∧ ∃ S : ASt, am_step scr E ls st h = some S ∧ am_exec cf M d scr f (S.1, S.2.1, S.2.2.1, S.2.2.2.1, k + S.2.2.2.2.1, n + S.2.2.2.2.2) = some res) ∨
       (am_kind E.2.1 E.2.2.1 = 1 ∧ ∃ v, am_ret M.2.2.2.2.1 E.2.1 st = some v ∧ res = (.inl v, h, k, n)) ∨
       (am_kind E.2.1 E.2.2.1 = 2 ∧ ∃ as rest Y res1, am_args E.2.2.2 st = some (as, rest) ∧ am_prog E.2.2.1 = some Y ∧ am_recv E.2.1 E.2.2.1 Y.1.cls as h = true ∧ cf E.2.2.1 as h = some res1 ∧
         ((∃ v, res1.1 = .inl v ∧ am_exec cf M d scr f (pc + am_nx E.2.1, ls, v.toList ++ rest, res1.2.1, k + res1.2.2.1, n + res1.2.2.2) = some res) ∨
          (∃ X, res1.1 = .inr X ∧ M.2.2.2.2.2.1 = [] ∧ res = (.inr X, res1.2.1, k + res1.2.2.1, n + res1.2.2.2)) ∨
          (∃ X hp pc2 ls2, res1.1 = .inr X ∧ am_hand M.2.2.2.2.2.1 pc X = some hp ∧ am_land M hp ls = some (pc2, ls2) ∧ am_exec cf M d scr f (pc2, ls2, [], res1.2.1, k + res1.2.2.1, n + res1.2.2.2) = some res))) ∨
       (am_kind E.2.1 E.2.2.1 = 3 ∧ 7 ≤ d ∧ E.2.2.2 < 3 ∧ (st.map Value.category).sum ≤ 8 ∧ M.2.2.2.2.2.1 = [] ∧ res = (.inr E.2.2.2, h, k + 1, n + 6))) := by
  unfold am_exec at hr
  split at hr
  · cases hr
  · next E hE =>
    refine ⟨E, hE, ?_⟩
    split at hr
    · next hk =>
      split at hr
      · cases hr
      · next S hS => exact Or.inl ⟨hk, _, hS, hr⟩
    · next hk =>
      split at hr
      · cases hr
      · next v hv =>
        cases hr
        exact Or.inr (Or.inl ⟨hk, v, hv, rfl⟩)
    · next hk =>
      split at hr
      · next as rest Y hav hp =>
        split at hr
        · next hrv =>
          split at hr
          · cases hr
          · next v h1 dk dn hcf => exact Or.inr (Or.inr (Or.inl ⟨hk, as, rest, Y, _, hav, hp, hrv, hcf, Or.inl ⟨v, rfl, hr⟩⟩))
          · next X h1 dk dn hcf =>
            split at hr
            · next hhs =>
              cases hr
              exact Or.inr (Or.inr (Or.inl ⟨hk, as, rest, Y, _, hav, hp, hrv, hcf, Or.inr (Or.inl ⟨X, rfl, hhs, rfl⟩)⟩))
            · next q l hhs =>
              split at hr
              · cases hr
              · next hp1 hh =>
                split at hr
                · cases hr
                · next pc2 ls2 hl2 => exact Or.inr (Or.inr (Or.inl ⟨hk, as, rest, Y, _, hav, hp, hrv, hcf, Or.inr (Or.inr ⟨X, hp1, pc2, ls2, rfl, by rw [hhs]; exact hh, hl2, hr⟩)⟩))
        · cases hr
      · cases hr
    · next h0 h1 h2 =>
      split at hr
      · next hq =>
        cases hr
        refine Or.inr (Or.inr (Or.inr ⟨?_, hq.1, hq.2.1, hq.2.2.1, hq.2.2.2, rfl⟩))
        have q0 : ¬ am_kind E.2.1 E.2.2.1 = 0 := fun q => h0 q
        have q1 : ¬ am_kind E.2.1 E.2.2.1 = 1 := fun q => h1 q
        have q2 : ¬ am_kind E.2.1 E.2.2.1 = 2 := fun q => h2 q
        have := am_kind_le E.2.1 E.2.2.1
        omega
      · cases hr
theorem am_exec_mono {cf : Nat → List Value → AHp → Option ARe} {M : AMe} {d : Nat} {scr : ASc} {res : ARe} : ∀ (f pc : Nat) (ls : ALs) (st : List Value) (h : AHp) (k n : Nat), am_exec cf M d scr f (pc, ls, st, h, k, n) = some res → k ≤ res.2.2.1 ∧ n ≤ res.2.2.2
  | 0, _, _, _, _, _, _, hr => by cases hr
  | f + 1, pc, ls, st, h, k, n, hr => by
    obtain ⟨E, -, ⟨-, S, -, h1⟩ | ⟨-, v, -, h1⟩ | ⟨-, as, rest, Y, res1, -, -, -, -, ⟨v, -, h1⟩ | ⟨X, -, -, h1⟩ | ⟨X, hp, pc2, ls2, -, -, -, h1⟩⟩ | ⟨-, -, -, -, -, h1⟩⟩ := am_exec_inv hr
    · have h2 := am_exec_mono f _ _ _ _ _ _ h1
      exact ⟨by omega, by omega⟩
    · subst h1; exact ⟨Nat.le_refl _, Nat.le_refl _⟩
    · have h2 := am_exec_mono f _ _ _ _ _ _ h1
      exact ⟨by omega, by omega⟩
    · subst h1; exact ⟨Nat.le_add_right _ _, Nat.le_add_right _ _⟩
    · have h2 := am_exec_mono f _ _ _ _ _ _ h1
      exact ⟨by omega, by omega⟩
    · subst h1; exact ⟨Nat.le_add_right _ _, Nat.le_add_right _ _⟩
theorem am_hand_spec : ∀ {L : List (Nat × Nat × Nat × Nat × Nat)} {pc X hp : Nat}, am_hand L pc X = some hp → ∃ pre q suf, L = pre ++ q :: suf ∧ q.1 ≤ pc ∧ pc < q.2.1 ∧ q.2.2.2.2 = X ∧ q.2.2.1 = hp ∧ ∀ z ∈ pre, ¬ (z.1 ≤ pc ∧ pc < z.2.1 ∧ z.2.2.2.2 = X)
  | [], _, _, _, h => by cases h
  | (a, b, hp0, ix, j) :: L, pc, X, hp, h => by
    unfold am_hand at h
    split at h
    · next hq =>
      cases h
      exact ⟨[], (a, b, hp0, ix, j), L, rfl, hq.1, hq.2.1, hq.2.2, rfl, fun z hz => by cases hz⟩
    · next hq =>
      obtain ⟨pre, q, suf, h1, h2, h3, h4, h5, h6⟩ := am_hand_spec h
      refine ⟨(a, b, hp0, ix, j) :: pre, q, suf, by rw [h1]; rfl, h2, h3, h4, h5, fun z hz => ?_⟩
      rcases List.mem_cons.mp hz with rfl | hz
      · exact hq
      · exact h6 z hz
theorem am_casts : ∀ i, i < 3 → Jvm.Cond.castable (am_exn i) (am_exn i) ∈ lw_tbl := by decide +kernel
section AMX
variable {p : Program} {l : Launch} {e : Env} {R : Room} {s : State} {m : MethodId} {args : Array Value} {below : List Frame} {meth : Method} {c : Code} {Q : State → Prop} {k : AK} {b nL : Nat} {as0 as : List Nat} {ws : va_W} {ls : ALs} {st : List Value} {h : AHp} {ls1 : Array Slot} {st1 : List Value} {H : Heap} {locs : List Loc} {cells slots pc : Nat} {scr : ASc}
/-- a frame runs as the abstract one does; how it ends is told by three callbacks -/
theorem sim_exec {cf : Nat → List Value → AHp → Option ARe} {M : AMe} {d d1 : Nat} {res : ARe} (C : am_Cx p l R s m args meth c k b M.2.2.1 M.2.1 M.1.cls M.1.name scr d) (hd : d = d1 + 1) (hB : am_okB M) (hH : am_okH M) (hTab : M.2.2.2.2.2.1 = [] ∨ c.exceptionTable.toList = tableOf (M.2.2.2.2.2.1.map fun z => (z.1, z.2.1, z.2.2.1, z.2.2.2.1)))
    (hYs : ∀ mi Y, am_prog mi = some Y → am_okY Y) (hcf : ∀ mi Y vs h1 res1, am_prog mi = some Y → cf mi vs h1 = some res1 → am_Ct l k b scr d1 Y vs h1 res1)
    (hk : res.2.2.1 ≤ R.cells) (hn : res.2.2.2 ≤ R.slots)
    (hR : ∀ (pc : Nat) (i : Instr) (ls : ALs) (st : List Value) (h : AHp) (v : Option Value) (as : List Nat) (ws : va_W) (ls1 : Array Slot) (st1 : List Value) (H : Heap) (locs : List Loc), decode M.2.1 pc = .ok (i, am_len i) → am_kind i 0 = 1 → am_ret M.2.2.2.2.1 i st = some v → res = (.inl v, h, res.2.2.1, res.2.2.2) → am_Rel k (am_X k b) M.2.2.1 s as0 as ws ls st h ls1 st1 H locs → W p l e R s m args below meth c H locs res.2.2.1 res.2.2.2 Q (F0 m pc ls1 st1))
    (hT : ∀ (E : AEn) (J : List (Nat × Nat)) (ls : ALs) (st : List Value) (h : AHp) (cells slots : Nat) (as : List Nat) (ws : va_W) (ls1 : Array Slot) (st1 : List Value) (H : Heap) (locs : List Loc), am_kind E.2.1 E.2.2.1 = 3 → am_okE M.1.cls M.1.name M.2.1 E J = true → 7 ≤ d → E.2.2.2 < 3 → (st.map Value.category).sum ≤ 8 → M.2.2.2.2.2.1 = [] → res = (.inr E.2.2.2, h, cells + 1, slots + 6) → am_Rel k (am_X k b) M.2.2.1 s as0 as ws ls st h ls1 st1 H locs → W p l e R s m args below meth c H locs cells slots Q (F0 m E.1 ls1 st1))
    (hU : ∀ (pc X : Nat) (h : AHp) (ce : Cell) (q9 : Addr) (as : List Nat) (ws : va_W) (ls1 : Array Slot) (H : Heap) (locs : List Loc) (rest1 : List Value), M.2.2.2.2.2.1 = [] → res = (.inr X, h, res.2.2.1, res.2.2.2) → (∃ u, as = as0 ++ u) → am_RW (am_X k b) k.2.2.1 as h ws → va_P k.2.1 am_cl ws H → va_D (am_A k) ws → va_S (am_A k) s.heap H locs → H[q9]? = some ce → ce.vm = .none → s.vm.findClass (am_exn X) = some ce.cls → vx_W p l e R s m args below meth c H locs res.2.2.1 res.2.2.2 Q (F0 m pc ls1 rest1) q9) :
    ∀ (f pc : Nat) (ls : ALs) (st : List Value) (h : AHp) (cells slots : Nat), am_exec cf M d scr f (pc, ls, st, h, cells, slots) = some res → ∀ (as : List Nat) (ws : va_W) (ls1 : Array Slot) (st1 : List Value) (H : Heap) (locs : List Loc), am_Rel k (am_X k b) M.2.2.1 s as0 as ws ls st h ls1 st1 H locs → W p l e R s m args below meth c H locs cells slots Q (F0 m pc ls1 st1) := by
  intro f
  induction f with
  | zero => intro pc ls st h cells slots hr; cases hr
  | succ f ih =>
    intro pc ls st h cells slots hr as ws ls1 st1 H locs Rl
    obtain ⟨E, hE, hcase⟩ := am_exec_inv hr
    have hpc := am_find_pc hE
    obtain ⟨J, hJ⟩ := hB pc E hE
    subst hpc
    rcases hcase with ⟨hk0, S, hS, h1⟩ | ⟨hk1, v, hv, h1⟩ | ⟨hk2, avs, rest, Y, res1, hav, hp, hrv, hcf1, hsub⟩ | ⟨hk3, h7, h5, hsum, hhs, h1⟩
    · have hm := am_exec_mono f _ _ _ _ _ _ h1
      exact sim_step C hk0 hJ hS (Nat.le_trans hm.1 hk) (Nat.le_trans hm.2 hn) Rl (fun as2 ws2 ls2 st2 H2 locs2 Rl2 => ih _ _ _ _ _ _ h1 as2 ws2 ls2 st2 H2 locs2 Rl2)
    · simp only [am_okE, Bool.and_eq_true] at hJ
      have hdg := am_dec_ok hJ.1
      have hdg2 : decode M.2.1 E.1 = .ok (E.2.1, am_len E.2.1) := by
        rw [hdg]
        split
        · next q => rw [q] at hk1; cases hk1
        · rfl
      have hk10 : am_kind E.2.1 0 = 1 := by
        unfold am_kind at hk1 ⊢
        split at hk1 <;> first | rfl | (split at hk1 <;> cases hk1) | cases hk1
      have e1 : cells = res.2.2.1 := by rw [h1]
      have e2 : slots = res.2.2.2 := by rw [h1]
      rw [e1, e2]
      exact hR E.1 E.2.1 ls st h v as ws ls1 st1 H locs hdg2 hk10 hv (by rw [← e1, ← e2]; exact h1) Rl
    · have hY := hYs _ _ hp
      have hCt := hcf _ _ _ _ _ hp hcf1
      have hm : cells + res1.2.2.1 ≤ res.2.2.1 ∧ slots + res1.2.2.2 ≤ res.2.2.2 := by
        rcases hsub with ⟨v, -, h1⟩ | ⟨X, -, -, h1⟩ | ⟨X, hp, pc2, ls2, -, -, -, h1⟩
        · exact am_exec_mono f _ _ _ _ _ _ h1
        · rw [h1]; exact ⟨Nat.le_refl _, Nat.le_refl _⟩
        · exact am_exec_mono f _ _ _ _ _ _ h1
      obtain ⟨⟨t0, ht0⟩, hl, -⟩ := id Rl
      refine sim_call C hd hk2 hJ hp hY hav hrv hCt (Nat.le_trans hm.1 hk) (Nat.le_trans hm.2 hn) Rl (fun v w as1 ws1 H1 locs1 rest1 q1 q2 q3 q4 q5 q6 q7 q8 => ?_) (fun i ce q9 as1 ws1 H1 locs1 rest1 q1 q4 q5 q6 q7 q8 q10 q11 q12 => ?_)
      · rcases hsub with ⟨v2, z1, h1⟩ | ⟨X, z1, -, h1⟩ | ⟨X, hp, pc2, ls2, z1, -, -, h1⟩
        · rw [q1] at z1
          cases z1
          obtain ⟨u, rfl⟩ := q4
          refine ih _ _ _ _ _ _ h1 (as ++ u) ws1 ls1 _ H1 locs1 ⟨⟨t0 ++ u, by rw [ht0, List.append_assoc]⟩, am_RL_app hl, ?_, q5, q6, q7, q8⟩
          cases v with
          | none =>
            cases w with
            | none => exact am_RS_app q3
            | some w => exact q2.elim
          | some v =>
            cases w with
            | none => exact q2.elim
            | some w => exact ⟨q2, am_RS_app q3⟩
        · rw [q1] at z1; cases z1
        · rw [q1] at z1; cases z1
      · rcases hsub with ⟨v2, z1, h1⟩ | ⟨X, z1, hhs, h1⟩ | ⟨X, hp1, pc2, ls2, z1, hh, hl2, h1⟩
        · rw [q1] at z1; cases z1
        · rw [q1] at z1
          cases z1
          obtain ⟨u, rfl⟩ := q4
          have e1 : cells + res1.2.2.1 = res.2.2.1 := by rw [h1]
          have e2 : slots + res1.2.2.2 = res.2.2.2 := by rw [h1]
          rw [e1, e2]
          exact hU E.1 i res1.2.1 ce q9 (as ++ u) ws1 ls1 H1 locs1 rest1 hhs (by rw [← e1, ← e2]; exact h1) ⟨t0 ++ u, by rw [ht0, List.append_assoc]⟩ q5 q6 q7 q8 q10 q11 q12
        · rw [q1] at z1
          cases z1
          obtain ⟨u, rfl⟩ := q4
          obtain ⟨pre, q, suf, g1, g2, g3, g4, g5, g6⟩ := am_hand_spec hh
          have hTab : c.exceptionTable.toList = tableOf (M.2.2.2.2.2.1.map fun z => (z.1, z.2.1, z.2.2.1, z.2.2.2.1)) := hTab.resolve_left (fun q0 => by rw [q0] at g1; simp at g1)
          have hmem : q ∈ M.2.2.2.2.2.1 := by rw [g1]; exact List.mem_append.mpr (Or.inr List.mem_cons_self)
          obtain ⟨o1, o2, o3⟩ := hH q hmem
          have hi5 : i < 3 := by rw [← g4]; exact o1
          have hWd := C.2.2.2.2.2.2.2.1
          have hown := C.2.2.2.1
          have hts := C.2.2.2.2.1
          have hx := C.1
          have hb := C.2.1
          refine vx_catch (own := M.1.cls) (name := am_exn q.2.2.2.2) (E := am_exn i) hown (pre.map fun z => (⟨z.1, z.2.1, z.2.2.1, z.2.2.2.1⟩ : ExceptionTableEntry)) ⟨q.1, q.2.1, q.2.2.1, q.2.2.2.1⟩ (suf.map fun z => (⟨z.1, z.2.1, z.2.2.1, z.2.2.2.1⟩ : ExceptionTableEntry)) (by rw [hTab, g1, tableOf]; simp [List.map_append, Function.comp_def]) (fun z hz => ?_) (by simp only [covers, Bool.and_eq_true, decide_eq_true_eq]; exact ⟨g2, g3⟩) o2 (hts _ o3) (va_Nw.use rfl (by rw [g4]; exact hWd.2.2.2.2.2.2.2.2.2.2.1 _ (am_casts i hi5) rfl)) q10 q11 q12 ?_
          · obtain ⟨z0, hz0, rfl⟩ := List.mem_map.mp hz
            have hzm : z0 ∈ M.2.2.2.2.2.1 := by rw [g1]; exact List.mem_append.mpr (Or.inl hz0)
            obtain ⟨r1, r2, r3⟩ := hH z0 hzm
            by_cases hcv : z0.1 ≤ E.1 ∧ E.1 < z0.2.1
            · refine Or.inr ⟨r2, am_exn z0.2.2.2.2, hts _ r3, ?_⟩
              have hne : ¬ i = z0.2.2.2.2 := fun q => g6 z0 hz0 ⟨hcv.1, hcv.2, q.symm⟩
              exact hWd.2.2.2.2.2.2.2.2.2.2.2.2.1 i z0.2.2.2.2 hi5 r1 hne
            · refine Or.inl ?_
              simp only [covers, Bool.and_eq_false_iff, decide_eq_false_iff_not]
              by_cases q : z0.1 ≤ E.1
              · exact Or.inr (fun z => hcv ⟨q, z⟩)
              · exact Or.inl q
          · show W p l e R s m args below meth c H1 locs1 _ _ Q (F0 m q.2.2.1 ls1 [.ref q9])
            rw [g5]
            have hl3 : am_RL (am_X k b) (as ++ u) M.2.2.1 ls ls1 := am_RL_app hl
            have hXo := am_X_ok k b
            unfold am_land at hl2
            split at hl2
            · next n r1 r2 hf2 =>
              split at hl2
              · next hlt =>
                cases hl2
                obtain ⟨J2, hJ2⟩ := hB hp1 _ hf2
                have hpc2 := am_find_pc hf2
                simp only [am_okE, Bool.and_eq_true] at hJ2
                have hdg2 := am_dec_ok hJ2.1
                dsimp only at hpc2 hdg2
                subst hpc2
                exact lv_astore_n hx hb hdg2 rfl (am_full_has hl3.1 hl3.2.2.1) (by rw [← hl3.2.1]; exact hlt) rfl (fun ls4 h4 => ih _ _ _ _ _ _ h1 (as ++ u) ws1 ls4 [] H1 locs1 ⟨⟨t0 ++ u, by rw [ht0, List.append_assoc]⟩, am_RL_clr hXo hl3 hlt h4, trivial, q5, q6, q7, q8⟩)
              · cases hl2
            · next n r1 r2 hf2 =>
              split at hl2
              · next hlt =>
                cases hl2
                obtain ⟨J2, hJ2⟩ := hB hp1 _ hf2
                have hpc2 := am_find_pc hf2
                simp only [am_okE, Bool.and_eq_true] at hJ2
                have hdg2 := am_dec_ok hJ2.1
                dsimp only at hpc2 hdg2
                subst hpc2
                exact lv_astore hx hb hdg2 (am_full_has hl3.1 hl3.2.2.1) (by rw [← hl3.2.1]; exact hlt) rfl (fun ls4 h4 => ih _ _ _ _ _ _ h1 (as ++ u) ws1 ls4 [] H1 locs1 ⟨⟨t0 ++ u, by rw [ht0, List.append_assoc]⟩, am_RL_clr hXo hl3 hlt h4, trivial, q5, q6, q7, q8⟩)
              · cases hl2
            · cases hl2
    · exact hT E J ls st h cells slots as ws ls1 st1 H locs hk3 hJ h7 h5 hsum hhs h1 Rl
end AMX
