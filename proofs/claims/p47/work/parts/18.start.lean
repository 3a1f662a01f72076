/-! ===== the claim out of one theorem about the abstract machine (by wip/p47/mk17.py) ===== -/
def am_LawOk : Prop := ∀ (L : Nat) (xs : Nat → Int32), L ≤ 260 → ∃ (f : Nat) (h1 : AHp) (kk nn : Nat), am_exec (am_call (some (L, xs)) 300 f) am_M389 300 (some (L, xs)) f (0, am_entry 11 [.ref am_SB], [], [], 0, 0) = some (.inl (some (.int 1)), h1, kk, nn) ∧ kk ≤ 320000 ∧ nn ≤ 5400000
theorem am_exec_nm {cf : Nat → List Value → AHp → Option ARe} {x y : MethodName} {R : ByteArray × Nat × Nat × Option FieldType × List (Nat × Nat × Nat × Nat × Nat) × List AEn} {d : Nat} {scr : ASc} : ∀ (f : Nat) (S : ASt), am_exec cf (x, R) d scr f S = am_exec cf (y, R) d scr f S := by
  intro f
  induction f with
  | zero => intro S; rfl
  | succ f ih =>
    intro S
    obtain ⟨pc, ls, st, h, k, n⟩ := S
    simp only [am_exec, ih, am_land]
def am_isput : Instr → Bool
  | .putfield _ => true
  | _ => false
theorem am_okE_nm {own nm nm2 : String} {cc : ByteArray} {E : AEn} {J : List (Nat × Nat)} (h : am_isput E.2.1 = false) : am_okE own nm cc E J = am_okE own nm2 cc E J := by
  obtain ⟨pc, i, r1, r2⟩ := E
  cases i <;> first | rfl | cases h
theorem am_lawput : am_M389.2.2.2.2.2.2.all (fun E => !am_isput E.2.1) = true := by decide +kernel
theorem am_lawB2 (nm : String) : am_okB (⟨"PebbleProofsLaw", nm, "([I)Z"⟩, am_M389.2) := by
  intro pc E h
  obtain ⟨J, hJ⟩ := am_lawB pc E h
  have h2 := List.all_eq_true.mp am_lawput E (am_find_mem h)
  refine ⟨J, ?_⟩
  rw [← hJ]
  exact am_okE_nm (by simpa using h2)
theorem am_arra {s : State} {args : Array Value} {ty : FieldType} (h : (Jvm.Cond.arrayOver (.array ty)).before args s = true) : ∃ g, ArrOfT s g (.array ty) ∧ va_RA s g (.array ty) := by
  obtain ⟨comp, g, kA, h1, h2, h3, h4, h5⟩ := arrayOverA_spec h
  exact ⟨g, fun n z => ⟨fun k h => (by cases h), kA, h3, comp, h4⟩, h5⟩
theorem am_ncs : ∀ i, i < 3 → ∀ j, j < 3 → ¬ i = j → Jvm.Cond.not (.castable (am_exn i) (am_exn j)) ∈ flatC (Jvm.Cond.and given_1 narrow_1) := by decide +kernel
theorem am_strR {args : Array Value} {s : State} {own tx : String} {idx : Nat} (h : (Jvm.Cond.stringRef own idx tx).before args s = true) : ∃ a, vk_R own idx tx a s := by
  have hcur : ∃ cur, s.vm.findClass own = some cur := by
    have h1 := h
    simp only [Cond.before, Cond.holds, Cond.value] at h1
    cases hc : s.vm.findClass own with
    | none => simp [hc] at h1
    | some cur => exact ⟨cur, rfl⟩
  obtain ⟨cur, hcur⟩ := hcur
  obtain ⟨k, cf, i, a, -, -, -, -, -, hev⟩ := Cond.stringRef_spec hcur h
  exact ⟨a, vk_R.of h hev⟩
set_option maxHeartbeats 2000000 in
theorem am_whole (hlaw : am_LawOk) {p : Program} {e : Env} {s : State} {m : MethodId} {below : List Frame} {meth : Method} {c : Code} (l : Launch) (hflags : l.flags = flags0) {b L : Nat} {xs : Nat → Int32} (hL : L ≤ 260) (C0 : lw_At p s m meth c b L xs) : W p l e room_1 s m #[Value.ref b] below meth c s.heap [] 0 0 (lw_Z below #[Value.ref b] s) (entryFrame m ([Value.ref b] : List Value).toArray 11) := by
  obtain ⟨hx, hb, hr, hml, hown, hts, hX, hbl, hlocks, hgv⟩ := id C0
  have hs := flat_of_before _ hgv
  have hA : ∀ a : Nat, a < s.heap.size → ¬ (fun q : Nat => s.heap.size ≤ q) a := fun a ha => Nat.not_le.mpr ha
  obtain ⟨c0, iS0, hKn0⟩ := u_known (C := "PebbleProofs$Board") (T := am_T0) (N := 9) (n := 9) hts am_w0 (hts (.instantiable "PebbleProofs$Board" 9) (by decide +kernel))
  obtain ⟨c1, iS1, hKn1⟩ := u_known (C := "PebbleProofs$FailingPiles") (T := am_T1) (N := 12) (n := 12) hts am_w1 (hts (.instantiable "PebbleProofs$FailingPiles" 12) (by decide +kernel))
  obtain ⟨c2, iS2, hKn2⟩ := u_known (C := "PebbleProofs$History") (T := am_T2) (N := 3) (n := 3) hts am_w2 (hts (.instantiable "PebbleProofs$History" 3) (by decide +kernel))
  obtain ⟨c3, iS3, hKn3⟩ := u_known (C := "PebbleProofs$Outlook") (T := am_T3) (N := 9) (n := 9) hts am_w3 (hts (.instantiable "PebbleProofs$Outlook" 9) (by decide +kernel))
  obtain ⟨c4, iS4, hKn4⟩ := u_known (C := "PebbleProofs$SetupText") (T := am_T4) (N := 7) (n := 7) hts am_w4 (hts (.instantiable "PebbleProofs$SetupText" 7) (by decide +kernel))
  obtain ⟨c5, iS5, hKn5⟩ := u_known (C := "PebbleProofs") (T := am_T5) (N := 9) (n := 9) hts am_w5 (hts (.instantiable "PebbleProofs" 9) (by decide +kernel))
  obtain ⟨c6, iS6, hKn6⟩ := u_known (C := "PebbleProofsLaw$Why") (T := am_T6) (N := 1) (n := 1) hts am_w6 (hts (.instantiable "PebbleProofsLaw$Why" 1) (by decide +kernel))
  obtain ⟨c7, iS7, hKn7⟩ := u_known (C := "PebbleProofsLaw$Yard") (T := am_T7) (N := 8) (n := 8) hts am_w7 (hts (.instantiable "PebbleProofsLaw$Yard" 8) (by decide +kernel))
  obtain ⟨c8, iS8, hKn8⟩ := u_known (C := "java/lang/String") (T := am_T8) (N := 4) (n := 4) hts am_w8 (hts (.instantiable "java/lang/String" 4) (by decide +kernel))
  obtain ⟨c9, iS9, hKn9⟩ := u_known (C := "java/lang/StringBuilder") (T := am_T9) (N := 4) (n := 4) hts am_w9 (hts (.instantiable "java/lang/StringBuilder" 4) (by decide +kernel))
  obtain ⟨c10, iS10, hKn10⟩ := u_known (C := "java/util/ArrayList") (T := am_T10) (N := 3) (n := 3) hts am_w10 (hts (.instantiable "java/util/ArrayList" 3) (by decide +kernel))
  obtain ⟨c11, iS11, hKn11⟩ := u_known (C := "java/util/ArrayList$Itr") (T := am_T11) (N := 4) (n := 4) hts am_w11 (hts (.instantiable "java/util/ArrayList$Itr" 4) (by decide +kernel))
  obtain ⟨F, hF⟩ := am_tqf hs
  obtain ⟨t0, te0, tT0⟩ := am_dq100 hs
  obtain ⟨t1, te1, tT1⟩ := am_dq101 hs
  obtain ⟨t2, te2, tT2⟩ := am_dq102 hs
  obtain ⟨r0, r0a, r0b⟩ := am_arrk (hts _ (by decide +kernel : Jvm.Cond.arrayClass .int ∈ lw_tbl)) (fun C q => by cases q)
  obtain ⟨r1, r1a, r1b⟩ := am_arrk (hts _ (by decide +kernel : Jvm.Cond.arrayClass .boolean ∈ lw_tbl)) (fun C q => by cases q)
  obtain ⟨r2, r2a, r2b⟩ := am_arrk (hts _ (by decide +kernel : Jvm.Cond.arrayClass .byte ∈ lw_tbl)) (fun C q => by cases q)
  have o3 := hts _ (by decide +kernel : Jvm.Cond.arrayOver (.object "PebbleProofs$Board") ∈ lw_tbl)
  obtain ⟨r3, r3a, r3b⟩ := am_arro o3
  have o4 := hts _ (by decide +kernel : Jvm.Cond.arrayOver (.object "PebbleProofs$FailingPiles") ∈ lw_tbl)
  obtain ⟨r4, r4a, r4b⟩ := am_arro o4
  have o5 := hts _ (by decide +kernel : Jvm.Cond.arrayOver (.object "java/lang/Object") ∈ lw_tbl)
  obtain ⟨r5, r5a, r5b⟩ := am_arro o5
  have o6 := hts _ (by decide +kernel : Jvm.Cond.arrayOver (.array .boolean) ∈ lw_tbl)
  obtain ⟨r6, r6a, r6b⟩ := am_arra o6
  have o7 := hts _ (by decide +kernel : Jvm.Cond.arrayOver (.array .int) ∈ lw_tbl)
  obtain ⟨r7, r7a, r7b⟩ := am_arra o7
  obtain ⟨k, hk⟩ : ∃ k : AK, k = (s.heap.size, (fun i => match i with | 0 => c0 | 1 => c1 | 2 => c2 | 3 => c3 | 4 => c4 | 5 => c5 | 6 => c6 | 7 => c7 | 8 => c8 | 9 => c9 | 10 => c10 | _ => c11, fun i => match i with | 0 => iS0 | 1 => iS1 | 2 => iS2 | 3 => iS3 | 4 => iS4 | 5 => iS5 | 6 => iS6 | 7 => iS7 | 8 => iS8 | 9 => iS9 | 10 => iS10 | _ => iS11), (fun i => match i with | 0 => r0 | 1 => r1 | 2 => r2 | 3 => r3 | 4 => r4 | 5 => r5 | 6 => r6 | _ => r7), (fun i => (F i).1), (fun i => if i < 100 then (F i).2 else if i = 100 then t0 else if i = 101 then t1 else t2)) := ⟨_, rfl⟩
  have hAk : am_A k = fun q : Nat => s.heap.size ≤ q := by rw [hk]; rfl
  have hk1 : ∀ i, k.2.2.2.1 i = (F i).1 := fun i => by rw [hk]
  have hk2 : ∀ i, i < 27 → k.2.2.2.2 i = (F i).2 := fun i hi => by rw [hk]; exact if_pos (show i < 100 by omega)
  have hk3 : k.2.2.2.2 100 = t0 := by rw [hk]; rfl
  have hk4 : k.2.2.2.2 101 = t1 := by rw [hk]; rfl
  have hk5 : k.2.2.2.2 102 = t2 := by rw [hk]; rfl
  have hWd : am_Wd k b (some (L, xs)) s := by
    refine ⟨⟨fun ci q hq => ?_, fun t q hq => ?_⟩, by rw [hk]; exact Nat.le_refl _, ⟨fun i hi => ?_, fun a n f hf => ?_, ?_⟩, fun q hq => ?_, ?_, ?_, ?_, ?_, va_AO.of o3, va_AO.of o4, fun w hw hi => va_Nw.of (am_isn_tab hi) (hts w hw), fun own idx tx hm => ?_, fun i j hi hj hij => ?_, ⟨?_, ?_, ?_⟩, ⟨va_AO.of o5, hts _ (by decide +kernel : Jvm.Cond.arrayOver (.array .boolean) ∈ lw_tbl), hts _ (by decide +kernel : Jvm.Cond.arrayOver (.array .int) ∈ lw_tbl), ?_, ?_⟩, fun n g q => ?_⟩
    · rw [hk]
      have h7 := am_cl_lt hq
      match ci, h7, hq with
      | 0, _, hq => cases hq; exact hKn0
      | 1, _, hq => cases hq; exact hKn1
      | 2, _, hq => cases hq; exact hKn2
      | 3, _, hq => cases hq; exact hKn3
      | 4, _, hq => cases hq; exact hKn4
      | 5, _, hq => cases hq; exact hKn5
      | 6, _, hq => cases hq; exact hKn6
      | 7, _, hq => cases hq; exact hKn7
      | 8, _, hq => cases hq; exact hKn8
      | 9, _, hq => cases hq; exact hKn9
      | 10, _, hq => cases hq; exact hKn10
      | 11, _, hq => cases hq; exact hKn11
    · rw [hk] at hq
      have h5 : t < 8 := (List.getElem?_eq_some_iff.mp hq).1
      match t, h5, hq with
      | 0, _, hq => cases hq; exact ⟨r0a, r0b⟩
      | 1, _, hq => cases hq; exact ⟨r1a, r1b⟩
      | 2, _, hq => cases hq; exact ⟨r2a, r2b⟩
      | 3, _, hq => cases hq; exact ⟨r3a, r3b⟩
      | 4, _, hq => cases hq; exact ⟨r4a, r4b⟩
      | 5, _, hq => cases hq; exact ⟨r5a, r5b⟩
      | 6, _, hq => cases hq; exact ⟨r6a, r6b⟩
      | 7, _, hq => cases hq; exact ⟨r7a, r7b⟩
    · obtain ⟨q1, q2, q3, -, -⟩ := hF i hi
      rw [hAk, hk1, hk2 i hi]
      exact ⟨q1, q2, q3⟩
    · rw [hAk]
      unfold am_oa at hf
      unfold am_oad
      split at hf
      · next hB =>
        cases hf
        have hi : (a - (am_SB + 10)) / 2 < 27 := by
          have h1 := hB.2.1
          have h2 := hB.2.2
          revert h1 h2
          generalize am_SB = sb
          intro h1 h2
          omega
        rw [if_pos hB, hk2 _ hi]
        exact (hF _ hi).2.2.2.1
      · next hB =>
        rw [if_neg hB]
        split at hf
        · next h3 =>
          cases hf
          rw [show 100 + (a - (am_SB + 2)) = 101 by rw [h3]; generalize am_SB = sb; omega, hk4]
          exact tT1
        · next h3 =>
          split at hf
          · next h4 =>
            cases hf
            rw [show 100 + (a - (am_SB + 2)) = 102 by rw [h4]; generalize am_SB = sb; omega, hk5]
            exact tT2
          · cases hf
    · rw [hAk, hk3]
      exact tT0
    · obtain ⟨hq1, hq2, hq3⟩ := am_srw q hq
      obtain ⟨-, -, -, -, h5⟩ := hF _ hq1
      rw [hk1]
      rw [hq2] at h5
      exact vk_R.of (hts _ hq3) h5
    · rw [hAk]
      exact va_Zof (hts _ (by decide +kernel : Jvm.Cond.laysStatic "java/lang/String" "COMPACT_STRINGS" "Z" ∈ lw_tbl)) (hts _ (by decide +kernel : Jvm.Cond.initialized "java/lang/String" ∈ lw_tbl)) (am_evi (hs (.eq (.static "java/lang/String" "COMPACT_STRINGS" "Z") (.int 1)) (am_pm [false, true, true, true, true, true, true, true, true, true, false, false] (by decide +kernel) rfl))) hA
    · rw [hAk]
      exact va_Zqof (hts _ (by decide +kernel : Jvm.Cond.laysStatic "jdk/internal/util/Preconditions" "SIOOBE_FORMATTER" "Ljava/util/function/BiFunction;" ∈ lw_tbl)) (hts _ (by decide +kernel : Jvm.Cond.initialized "jdk/internal/util/Preconditions" ∈ lw_tbl)) (hs _ (am_pm [false, true, true, true, true, true, true, true, true, false, true] (by decide +kernel) rfl)) hA
    · rw [hAk]
      exact vx_Zqof (hts _ (by decide +kernel : Jvm.Cond.laysStatic Bundle.tN "UNASSIGNED_STACK" Bundle.steD ∈ lw_tbl)) (hts _ (by decide +kernel : Jvm.Cond.initialized Bundle.tN ∈ lw_tbl)) (hs _ (am_pm [false, true, true, true, true, true, true, true, false, false, false, false] (by decide +kernel) rfl)) hA
    · rw [hAk]
      exact vx_Zqof (hts _ (by decide +kernel : Jvm.Cond.laysStatic Bundle.tN "SUPPRESSED_SENTINEL" Bundle.listD ∈ lw_tbl)) (hts _ (by decide +kernel : Jvm.Cond.initialized Bundle.tN ∈ lw_tbl)) (hs _ (am_pm [false, true, true, true, true, true, true, false, true, true, true] (by decide +kernel) rfl)) hA
    · exact am_strR (hts _ hm)
    · exact va_Nc.of (hs _ (am_ncs i hi j hj hij))
    · rw [hAk, hk3]
      exact va_Zof (hts _ (by decide +kernel : Jvm.Cond.laysStatic "java/util/ArrayList" "DEFAULTCAPACITY_EMPTY_ELEMENTDATA" "[Ljava/lang/Object;" ∈ lw_tbl)) (hts _ (by decide +kernel : Jvm.Cond.initialized "java/util/ArrayList" ∈ lw_tbl)) te0 hA
    · rw [hAk, hk4]
      exact va_Zof (hts _ (by decide +kernel : Jvm.Cond.laysStatic "java/lang/Integer" "DigitOnes" "[B" ∈ lw_tbl)) (hts _ (by decide +kernel : Jvm.Cond.initialized "java/lang/Integer" ∈ lw_tbl)) te1 hA
    · rw [hAk, hk5]
      exact va_Zof (hts _ (by decide +kernel : Jvm.Cond.laysStatic "java/lang/Integer" "DigitTens" "[B" ∈ lw_tbl)) (hts _ (by decide +kernel : Jvm.Cond.initialized "java/lang/Integer" ∈ lw_tbl)) te2 hA
    · exact va_Fw.of (hts _ (by decide +kernel : Jvm.Cond.declares am_itH ∈ lw_tbl)) (hts _ (by decide +kernel : Jvm.Cond.interfaceMethod "java/util/Iterator" "java/util/Iterator" "hasNext" "()Z" ∈ lw_tbl)) (hts _ (by decide +kernel : Jvm.Cond.publicMethod am_aiH ∈ lw_tbl)) (hts _ (by decide +kernel : Jvm.Cond.unhidden "java/util/ArrayList$Itr" "hasNext" "()Z" ∈ lw_tbl)) (hts _ (by decide +kernel : Jvm.Cond.castable "java/util/ArrayList$Itr" "java/util/Iterator" ∈ lw_tbl))
    · exact va_Fw.of (hts _ (by decide +kernel : Jvm.Cond.declares am_itN ∈ lw_tbl)) (hts _ (by decide +kernel : Jvm.Cond.interfaceMethod "java/util/Iterator" "java/util/Iterator" "next" "()Ljava/lang/Object;" ∈ lw_tbl)) (hts _ (by decide +kernel : Jvm.Cond.publicMethod am_aiN ∈ lw_tbl)) (hts _ (by decide +kernel : Jvm.Cond.unhidden "java/util/ArrayList$Itr" "next" "()Ljava/lang/Object;" ∈ lw_tbl)) (hts _ (by decide +kernel : Jvm.Cond.castable "java/util/ArrayList$Itr" "java/util/Iterator" ∈ lw_tbl))
    · have q2 : (L, xs) = (n, g) := Option.some.inj q
      cases q2
      exact ⟨hX, hbl, by rw [hAk]; exact Nat.not_le.mpr hbl⟩
  obtain ⟨f, h1, kk, nn, hrun, hkk0, hnn0⟩ := hlaw L xs hL
  have hkk : kk ≤ room_1.cells := Nat.le_trans hkk0 (by decide)
  have hnn : nn ≤ room_1.slots := Nat.le_trans hnn0 (by decide)
  have hfl : l.stackTraces = false := by
    rw [Launch.stackTraces, hflags]
    decide +kernel
  have hrun2 : am_exec (am_call (some (L, xs)) 300 f) (⟨"PebbleProofsLaw", meth.name, "([I)Z"⟩, am_M389.2) 300 (some (L, xs)) f (0, am_entry 11 [.ref am_SB], [], [], 0, 0) = some (.inl (some (.int 1)), h1, kk, nn) := by
    rw [← hrun]
    exact am_exec_nm f _
  have C : am_Cx p l room_1 s m #[Value.ref b] meth c k b 11 code "PebbleProofsLaw" meth.name (some (L, xs)) 300 :=
    ⟨hx, hb, hml, hown, fun w hw => hts w (List.mem_filter.mp hw).1, hlocks, rfl, hWd, by decide, by decide, by decide, hfl⟩
  have hP0 : va_P k.2.1 am_cl [] s.heap := fun i q hq => by simp at hq
  have hD0 : va_D (am_A k) [] := ⟨fun i j p q hp => by simp at hp, fun i q hq => by simp at hq⟩
  have hW0 : am_RW (am_X k b) k.2.2.1 [] [] [] := ⟨rfl, rfl, by decide, fun i c hc => by simp at hc⟩
  have hv0 : am_RS (am_X k b) [] [Value.ref am_SB] [Value.ref b] := ⟨am_RV_mkx (Nat.lt_irrefl _) (by unfold am_X; rw [if_pos rfl]), trivial⟩
  have hlen0 : (am_slots [Value.ref am_SB]).length ≤ 11 := by decide
  have hl0 := am_RL_entry (am_X_ok k b) hv0 hlen0
  rw [lg_entry_eq]
  refine sim_exec (M := (⟨"PebbleProofsLaw", meth.name, "([I)Z"⟩, am_M389.2)) (Q := lw_Z below #[Value.ref b] s) (as0 := []) (res := (.inl (some (.int 1)), h1, kk, nn)) C rfl (am_lawB2 meth.name) (am_h0 rfl) (Or.inl rfl) (fun mi Y h => (am_prog_ok mi Y h).1) (fun mi Y vs h2 res1 q1 q2 => sim_all hfl am_prog_ok 299 f mi Y vs h2 res1 q1 q2) hkk hnn ?_ ?_ ?_ f 0 _ [] [] 0 0 hrun2 [] [] _ [] s.heap [] ⟨⟨[], rfl⟩, hl0, trivial, hW0, hP0, hD0, va_S.rf⟩
  · intro pc i ls st h v as2 ws2 ls1 st1 H locs hdg hk1 hv hres Rl
    have hv1 : v = some (.int 1) := by cases hres; rfl
    subst hv1
    obtain ⟨-, -, hst, -, -, -, hS⟩ := Rl
    have hloc : ∀ q ∈ locs, s.heap.size ≤ q.base := fun q hq => by have h9 := hS.2.2 q hq; rw [hAk] at h9; exact h9
    unfold am_ret at hv
    split at hv
    · next x ty =>
      split at hv
      · cases hv
        obtain ⟨r, rfl, hr0⟩ := am_RS_int hst
        obtain rfl := am_RS_nil hr0
        have w0 := lw_ret (p := p) (l := l) (e := e) (s := s) (m := m) (below := below) (meth := meth) (c := c) (b := b) hx hb hr hlocks (pc := pc) (H := H) (ls := ls1) hdg
        have w1 := W.widen hkk hnn w0
        have w2 := W.forget (L := locs) hloc w1
        rw [List.nil_append] at w2
        exact w2
      · cases hv
    all_goals first | (cases hv; done) | (split at hv <;> cases hv)
  · intro E J ls st h cells slots as2 ws2 ls1 st1 H locs _ _ _ _ _ _ hres _
    cases hres
  · intro pc X h ce q9 as2 ws2 ls1 H locs rest1 _ hres
    cases hres
