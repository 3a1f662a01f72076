/-! ===== the claim out of one theorem about the abstract machine ===== -/
def am_LawOk : Prop := ∀ (L : Nat) (xs : Nat → Int32), L ≤ 3072 → ∃ (f : Nat) (h1 : AHp) (kk nn : Nat), am_exec (am_call 12 f) am_M299 12 (some (L, xs)) f (0, am_entry 7 [.ref am_SB], [], [], 0, 0) = some (.inl (some (.int 1)), h1, kk, nn) ∧ kk ≤ 300000 ∧ nn ≤ 5000000
theorem am_exec_nm {cf : Nat → List Value → AHp → Option ARe} {x y : MethodName} {R : ByteArray × Nat × Nat × Option FieldType × List (Nat × Nat × Nat × Nat × Nat) × List AEn} {d : Nat} {scr : ASc} : ∀ (f : Nat) (S : ASt), am_exec cf (x, R) d scr f S = am_exec cf (y, R) d scr f S := by
  intro f
  induction f with
  | zero => intro S; rfl
  | succ f ih =>
    intro S
    obtain ⟨pc, ls, st, h, k, n⟩ := S
    simp only [am_exec, ih, am_land]
def am_isput : Instr → Bool
  | .putfield _ => true
  | _ => false
theorem am_okE_nm {own nm nm2 : String} {cc : ByteArray} {E : AEn} {J : List (Nat × Nat)} (h : am_isput E.2.1 = false) : am_okE own nm cc E J = am_okE own nm2 cc E J := by
  obtain ⟨pc, i, r1, r2⟩ := E
  cases i <;> first | rfl | cases h
theorem am_lawput : am_M299.2.2.2.2.2.2.all (fun E => !am_isput E.2.1) = true := by decide +kernel
theorem am_lawB2 (nm : String) : am_okB (⟨"PebbleProofsLaw", nm, "([I)Z"⟩, am_M299.2) := by
  intro pc E h
  obtain ⟨J, hJ⟩ := am_lawB pc E h
  have h2 := List.all_eq_true.mp am_lawput E (am_find_mem h)
  refine ⟨J, ?_⟩
  rw [← hJ]
  exact am_okE_nm (by simpa using h2)
theorem am_arrk {s : State} {args : Array Value} {ty : FieldType} (h : (Jvm.Cond.arrayClass ty).before args s = true) (hno : ∀ C, ty ≠ .object C) : ∃ g, ArrOfT s g ty ∧ va_RA s g ty := by
  obtain ⟨g, kA, comp, h1, h2, h3⟩ := Cond.arrayClass_spec h
  refine ⟨g, fun n z => ⟨fun k h => (by cases h), kA, h2, comp, h3⟩, ?_⟩
  cases ty with
  | object C => exact absurd rfl (hno C)
  | _ => exact h1
theorem am_arro {s : State} {args : Array Value} {C : String} (h : (Jvm.Cond.arrayOver (.object C)).before args s = true) : ∃ g, ArrOfT s g (.object C) ∧ va_RA s g (.object C) := by
  obtain ⟨comp, g, kA, h1, -, h2, h3, h4⟩ := Cond.arrayOver_spec h
  exact ⟨g, fun n z => ⟨fun k h => (by cases h), kA, h2, comp, h3⟩, kA, comp, h2, h3, h1, h4⟩
/-- a text, out of what the Statement gives of it -/
theorem am_text {args : Array Value} {s : State} {A : Nat → Prop} (own : String) (idx : Nat) (bs : List Int32) (hlen : bs.length < 2 ^ 31) (hs : ∀ w ∈ flatC (Jvm.Cond.and given_1 narrow_1), w.before args s = true)
    (h1 : Jvm.Cond.exactly (.string own idx) "java/lang/String" ∈ flatC (Jvm.Cond.and given_1 narrow_1)) (h2 : Jvm.Cond.eq (.field (.string own idx) "java/lang/String" "coder" "B") (.int 0) ∈ flatC (Jvm.Cond.and given_1 narrow_1))
    (h3 : Jvm.Cond.arrayOf (.field (.string own idx) "java/lang/String" "value" "[B") .byte ∈ flatC (Jvm.Cond.and given_1 narrow_1)) (h4 : Jvm.Cond.eq (.length (.field (.string own idx) "java/lang/String" "value" "[B")) (.int (Int32.ofNat bs.length)) ∈ flatC (Jvm.Cond.and given_1 narrow_1))
    (h5 : ∀ j, j < bs.length → Jvm.Cond.eq (.elem (.field (.string own idx) "java/lang/String" "value" "[B") (.int (Int32.ofNat j))) (.int (bs.getD j 0)) ∈ flatC (Jvm.Cond.and given_1 narrow_1)) (hA : ∀ a : Nat, a < s.heap.size → ¬ A a) :
    ∃ aK aV : Nat, va_O "java/lang/String" aK A s s.heap ∧ va_OF "java/lang/String" "coder" "B" (.int 0) aK A s s.heap ∧ va_OF "java/lang/String" "value" "[B" (.ref aV) aK A s s.heap ∧ va_T .byte aV bs.length (fun j => .int (bs.getD j 0)) A s s.heap ∧ (Term.string own idx).eval args s none [] s = some (.ref aK) := by
  obtain ⟨adK, adV, hE, hev⟩ := vk_Sof (N := 1) (tm := fun _ => .string own idx) (len := [bs.length]) (byt := [bs]) (A := A) (args := args) (s := s) (fun i hi => by rw [show i = 0 by omega]; exact hlen) (fun i hi => hs _ h1) (fun i hi => hs _ h2) (fun i hi => hs _ h3) (fun i hi => by rw [show i = 0 by omega]; exact hs _ h4)
    (fun i hi j hj => by rw [show i = 0 by omega] at hj ⊢; exact hs _ (h5 j hj)) (fun i j hi hj hij => absurd (by omega) hij) hA
  obtain ⟨q1, q2, q3, q4⟩ := hE.1 0 (by omega)
  exact ⟨adK 0, adV 0, q1, q2, q3, q4, hev 0 (by omega)⟩
theorem am_ncs : ∀ i, i < 5 → ∀ j, j < 5 → ¬ i = j → Jvm.Cond.not (.castable (am_exn i) (am_exn j)) ∈ flatC (Jvm.Cond.and given_1 narrow_1) := by decide +kernel
theorem am_evn {own : String} {idx a : Nat} {args : Array Value} {s : State} (h : (Term.string own idx).eval args s none [] s = some (.ref a)) : (Term.string own idx).eval args s none [] s = some (.ref a) := h
theorem am_st1 {args : Array Value} {s : State} {C n d : String} {x : Int32} (h : (Jvm.Cond.eq (.static C n d) (.int x)).before args s = true) : (Term.static C n d).eval args s none [] s = some (.int x) := by
  have hi : (Term.int x).eval args s none [] s = some (.int x) := rfl
  simp only [Cond.before, Cond.holds, Cond.value, hi] at h
  cases hu : (Term.static C n d).eval args s none [] s with
  | none => simp [hu] at h
  | some v =>
    rw [hu] at h
    cases v <;> simp at h
    rw [h]
theorem am_strR {args : Array Value} {s : State} {own tx : String} {idx : Nat} (h : (Jvm.Cond.stringRef own idx tx).before args s = true) : ∃ a, vk_R own idx tx a s := by
  have hcur : ∃ cur, s.vm.findClass own = some cur := by
    have h1 := h
    simp only [Cond.before, Cond.holds, Cond.value] at h1
    cases hc : s.vm.findClass own with
    | none => simp [hc] at h1
    | some cur => exact ⟨cur, rfl⟩
  obtain ⟨cur, hcur⟩ := hcur
  obtain ⟨k, cf, i, a, -, -, -, -, -, hev⟩ := Cond.stringRef_spec hcur h
  exact ⟨a, vk_R.of h hev⟩
theorem am_same {args : Array Value} {s : State} {t u : Term} {a : Nat} (h : t.eval args s none [] s = some (.ref a)) (he : (Jvm.Cond.eq t u).before args s = true) : u.eval args s none [] s = some (.ref a) := by
  simp only [Cond.before, Cond.holds, Cond.value, h] at he
  cases hu : u.eval args s none [] s with
  | none => simp [hu] at he
  | some v =>
    rw [hu] at he
    cases v <;> simp at he
    rw [he]
set_option maxHeartbeats 2000000 in
theorem am_whole (hlaw : am_LawOk) {p : Program} {e : Env} {s : State} {m : MethodId} {below : List Frame} {meth : Method} {c : Code} (l : Launch) (hflags : l.flags = flags0) {b L : Nat} {xs : Nat → Int32} (hL : L ≤ 3072) (C0 : lw_At p s m meth c b L xs) : W p l e room_1 s m #[Value.ref b] below meth c s.heap [] 0 0 (lw_Z below #[Value.ref b] s) (entryFrame m ([Value.ref b] : List Value).toArray 7) := by
  obtain ⟨hx, hb, hr, hml, hown, hts, hX, hbl, hlocks, hgv⟩ := id C0
  have hs := flat_of_before _ hgv
  have hA : ∀ a : Nat, a < s.heap.size → ¬ (fun q : Nat => s.heap.size ≤ q) a := fun a ha => Nat.not_le.mpr ha
  obtain ⟨c0, iS0, hKn0⟩ := u_known (C := "PebbleProofs$Board") (T := am_T0) (N := 9) (n := 9) hts am_w0 (hts (.instantiable "PebbleProofs$Board" 9) (by decide +kernel))
  obtain ⟨c1, iS1, hKn1⟩ := u_known (C := "PebbleProofs$FailingPiles") (T := am_T1) (N := 12) (n := 12) hts am_w1 (hts (.instantiable "PebbleProofs$FailingPiles" 12) (by decide +kernel))
  obtain ⟨c2, iS2, hKn2⟩ := u_known (C := "PebbleProofs$History") (T := am_T2) (N := 3) (n := 3) hts am_w2 (hts (.instantiable "PebbleProofs$History" 3) (by decide +kernel))
  obtain ⟨c3, iS3, hKn3⟩ := u_known (C := "PebbleProofs$Outlook") (T := am_T3) (N := 9) (n := 9) hts am_w3 (hts (.instantiable "PebbleProofs$Outlook" 9) (by decide +kernel))
  obtain ⟨c4, iS4, hKn4⟩ := u_known (C := "PebbleProofs$SetupText") (T := am_T4) (N := 7) (n := 7) hts am_w4 (hts (.instantiable "PebbleProofs$SetupText" 7) (by decide +kernel))
  obtain ⟨c5, iS5, hKn5⟩ := u_known (C := "PebbleProofs") (T := am_T5) (N := 9) (n := 9) hts am_w5 (hts (.instantiable "PebbleProofs" 9) (by decide +kernel))
  obtain ⟨c6, iS6, hKn6⟩ := u_known (C := "PebbleProofsModel") (T := am_T6) (N := 28) (n := 28) hts am_w6 (hts (.instantiable "PebbleProofsModel" 28) (by decide +kernel))
  obtain ⟨k0, v0, a0, b0, d0, e0, f0⟩ := am_text (A := fun q : Nat => s.heap.size ≤ q) "PebbleProofs$SetupText" 82 (am_tx 0) (by decide) hs (by decide +kernel) (by decide +kernel) (by decide +kernel) (by decide +kernel) (by decide +kernel) (fun a ha => Nat.not_le.mpr ha)
  have g0 : (Term.string "PebbleProofsModel" 156).eval #[Value.ref b] s none [] s = some (.ref k0) := am_same f0 (hs (.eq (.string "PebbleProofs$SetupText" 82) (.string "PebbleProofsModel" 156)) (by decide +kernel))
  obtain ⟨k1, v1, a1, b1, d1, e1, f1⟩ := am_text (A := fun q : Nat => s.heap.size ≤ q) "PebbleProofs$SetupText" 91 (am_tx 1) (by decide) hs (by decide +kernel) (by decide +kernel) (by decide +kernel) (by decide +kernel) (by decide +kernel) (fun a ha => Nat.not_le.mpr ha)
  have g1 : (Term.string "PebbleProofsModel" 169).eval #[Value.ref b] s none [] s = some (.ref k1) := am_same f1 (hs (.eq (.string "PebbleProofs$SetupText" 91) (.string "PebbleProofsModel" 169)) (by decide +kernel))
  obtain ⟨k2, v2, a2, b2, d2, e2, f2⟩ := am_text (A := fun q : Nat => s.heap.size ≤ q) "PebbleProofs$SetupText" 96 (am_tx 2) (by decide) hs (by decide +kernel) (by decide +kernel) (by decide +kernel) (by decide +kernel) (by decide +kernel) (fun a ha => Nat.not_le.mpr ha)
  have g2 : (Term.string "PebbleProofsModel" 174).eval #[Value.ref b] s none [] s = some (.ref k2) := am_same f2 (hs (.eq (.string "PebbleProofs$SetupText" 96) (.string "PebbleProofsModel" 174)) (by decide +kernel))
  obtain ⟨k3, v3, a3, b3, d3, e3, f3⟩ := am_text (A := fun q : Nat => s.heap.size ≤ q) "PebbleProofs$SetupText" 101 (am_tx 3) (by decide) hs (by decide +kernel) (by decide +kernel) (by decide +kernel) (by decide +kernel) (by decide +kernel) (fun a ha => Nat.not_le.mpr ha)
  have g3 : (Term.string "PebbleProofsModel" 179).eval #[Value.ref b] s none [] s = some (.ref k3) := am_same f3 (hs (.eq (.string "PebbleProofs$SetupText" 101) (.string "PebbleProofsModel" 179)) (by decide +kernel))
  obtain ⟨r0, r0a, r0b⟩ := am_arrk (hts _ (by decide +kernel : Jvm.Cond.arrayClass .int ∈ lw_tbl)) (fun C q => by cases q)
  obtain ⟨r1, r1a, r1b⟩ := am_arrk (hts _ (by decide +kernel : Jvm.Cond.arrayClass .boolean ∈ lw_tbl)) (fun C q => by cases q)
  obtain ⟨r2, r2a, r2b⟩ := am_arrk (hts _ (by decide +kernel : Jvm.Cond.arrayClass .long ∈ lw_tbl)) (fun C q => by cases q)
  have o3 := hts _ (by decide +kernel : Jvm.Cond.arrayOver (.object "PebbleProofs$Board") ∈ lw_tbl)
  have o4 := hts _ (by decide +kernel : Jvm.Cond.arrayOver (.object "PebbleProofs$FailingPiles") ∈ lw_tbl)
  obtain ⟨r3, r3a, r3b⟩ := am_arro o3
  obtain ⟨r4, r4a, r4b⟩ := am_arro o4
  obtain ⟨k, hk⟩ : ∃ k : AK, k = (s.heap.size, (fun i => match i with | 0 => c0 | 1 => c1 | 2 => c2 | 3 => c3 | 4 => c4 | 5 => c5 | _ => c6, fun i => match i with | 0 => iS0 | 1 => iS1 | 2 => iS2 | 3 => iS3 | 4 => iS4 | 5 => iS5 | _ => iS6), (fun i => match i with | 0 => r0 | 1 => r1 | 2 => r2 | 3 => r3 | _ => r4), (fun i => match i with | 0 => k0 | 1 => k1 | 2 => k2 | _ => k3), (fun i => match i with | 0 => v0 | 1 => v1 | 2 => v2 | _ => v3)) := ⟨_, rfl⟩
  have hAk : am_A k = fun q : Nat => s.heap.size ≤ q := by rw [hk]; rfl
  have hWd : am_Wd k s := by
    refine ⟨⟨fun ci q hq => ?_, fun t q hq => ?_⟩, by rw [hk]; exact Nat.le_refl _, fun i hi => ?_, fun q hq => ?_, ?_, ?_, ?_, ?_, va_AO.of o3, va_AO.of o4, fun w hw hi => va_Nw.of (am_isn_tab hi) (hts w hw), fun own idx tx hm => ?_, fun i j hi hj hij => ?_⟩
    · rw [hk]
      have h7 := am_cl_lt hq
      match ci, h7, hq with
      | 0, _, hq => cases hq; exact hKn0
      | 1, _, hq => cases hq; exact hKn1
      | 2, _, hq => cases hq; exact hKn2
      | 3, _, hq => cases hq; exact hKn3
      | 4, _, hq => cases hq; exact hKn4
      | 5, _, hq => cases hq; exact hKn5
      | 6, _, hq => cases hq; exact hKn6
    · rw [hk] at hq
      have h5 : t < 5 := (List.getElem?_eq_some_iff.mp hq).1
      match t, h5, hq with
      | 0, _, hq => cases hq; exact ⟨r0a, r0b⟩
      | 1, _, hq => cases hq; exact ⟨r1a, r1b⟩
      | 2, _, hq => cases hq; exact ⟨r2a, r2b⟩
      | 3, _, hq => cases hq; exact ⟨r3a, r3b⟩
      | 4, _, hq => cases hq; exact ⟨r4a, r4b⟩
    · rw [hAk, hk]
      match i, hi with
      | 0, _ => exact ⟨a0, b0, d0, e0⟩
      | 1, _ => exact ⟨a1, b1, d1, e1⟩
      | 2, _ => exact ⟨a2, b2, d2, e2⟩
      | 3, _ => exact ⟨a3, b3, d3, e3⟩
    · rw [hk]
      have hq2 : q = ("PebbleProofs$SetupText", 82, 0) ∨ q = ("PebbleProofs$SetupText", 91, 1) ∨ q = ("PebbleProofs$SetupText", 96, 2) ∨ q = ("PebbleProofs$SetupText", 101, 3) ∨ q = ("PebbleProofsModel", 156, 0) ∨ q = ("PebbleProofsModel", 169, 1) ∨ q = ("PebbleProofsModel", 174, 2) ∨ q = ("PebbleProofsModel", 179, 3) := by simpa [am_sr] using hq
      rcases hq2 with rfl | rfl | rfl | rfl | rfl | rfl | rfl | rfl
      · exact vk_R.of (hts (.stringRef "PebbleProofs$SetupText" 82 (am_txs 0)) (by decide +kernel)) (am_evn f0)
      · exact vk_R.of (hts (.stringRef "PebbleProofs$SetupText" 91 (am_txs 1)) (by decide +kernel)) (am_evn f1)
      · exact vk_R.of (hts (.stringRef "PebbleProofs$SetupText" 96 (am_txs 2)) (by decide +kernel)) (am_evn f2)
      · exact vk_R.of (hts (.stringRef "PebbleProofs$SetupText" 101 (am_txs 3)) (by decide +kernel)) (am_evn f3)
      · exact vk_R.of (hts (.stringRef "PebbleProofsModel" 156 (am_txs 0)) (by decide +kernel)) (am_evn g0)
      · exact vk_R.of (hts (.stringRef "PebbleProofsModel" 169 (am_txs 1)) (by decide +kernel)) (am_evn g1)
      · exact vk_R.of (hts (.stringRef "PebbleProofsModel" 174 (am_txs 2)) (by decide +kernel)) (am_evn g2)
      · exact vk_R.of (hts (.stringRef "PebbleProofsModel" 179 (am_txs 3)) (by decide +kernel)) (am_evn g3)
    · rw [hAk]
      exact va_Zof (hts _ (by decide +kernel : Jvm.Cond.laysStatic "java/lang/String" "COMPACT_STRINGS" "Z" ∈ lw_tbl)) (hts _ (by decide +kernel : Jvm.Cond.initialized "java/lang/String" ∈ lw_tbl)) (am_st1 (hs (.eq (.static "java/lang/String" "COMPACT_STRINGS" "Z") (.int 1)) (by decide +kernel))) hA
    · rw [hAk]
      exact va_Zqof (hts _ (by decide +kernel : Jvm.Cond.laysStatic "jdk/internal/util/Preconditions" "SIOOBE_FORMATTER" "Ljava/util/function/BiFunction;" ∈ lw_tbl)) (hts _ (by decide +kernel : Jvm.Cond.initialized "jdk/internal/util/Preconditions" ∈ lw_tbl)) (hs _ (by decide +kernel)) hA
    · rw [hAk]
      exact vx_Zqof (hts _ (by decide +kernel : Jvm.Cond.laysStatic Bundle.tN "UNASSIGNED_STACK" Bundle.steD ∈ lw_tbl)) (hts _ (by decide +kernel : Jvm.Cond.initialized Bundle.tN ∈ lw_tbl)) (hs _ (by decide +kernel)) hA
    · rw [hAk]
      exact vx_Zqof (hts _ (by decide +kernel : Jvm.Cond.laysStatic Bundle.tN "SUPPRESSED_SENTINEL" Bundle.listD ∈ lw_tbl)) (hts _ (by decide +kernel : Jvm.Cond.initialized Bundle.tN ∈ lw_tbl)) (hs _ (by decide +kernel)) hA
    · exact am_strR (hts _ hm)
    · exact va_Nc.of (hs _ (am_ncs i hi j hj hij))
  obtain ⟨f, h1, kk, nn, hrun, hkk0, hnn0⟩ := hlaw L xs hL
  have hkk : kk ≤ room_1.cells := Nat.le_trans hkk0 (by decide)
  have hnn : nn ≤ room_1.slots := Nat.le_trans hnn0 (by decide)
  have hfl : l.stackTraces = false := by
    rw [Launch.stackTraces, hflags]
    decide +kernel
  have hrun2 : am_exec (am_call 12 f) (⟨"PebbleProofsLaw", meth.name, "([I)Z"⟩, am_M299.2) 12 (some (L, xs)) f (0, am_entry 7 [.ref am_SB], [], [], 0, 0) = some (.inl (some (.int 1)), h1, kk, nn) := by
    rw [← hrun]
    exact am_exec_nm f _
  have C : am_Cx p l room_1 s m #[Value.ref b] meth c k b 7 code "PebbleProofsLaw" meth.name (some (L, xs)) 12 :=
    ⟨hx, hb, hml, hown, fun w hw => hts w (List.mem_filter.mp hw).1, hlocks, rfl, hWd, fun n g q => by
      have q2 : (L, xs) = (n, g) := Option.some.inj q
      cases q2
      exact ⟨hX, hbl, by rw [hAk]; exact Nat.not_le.mpr hbl⟩, by decide, by decide, by decide, hfl⟩
  have hP0 : va_P k.2.1 am_cl [] s.heap := fun i q hq => by simp at hq
  have hD0 : va_D (am_A k) [] := ⟨fun i j p q hp => by simp at hp, fun i q hq => by simp at hq⟩
  have hW0 : am_RW (am_X k b) k.2.2.1 [] [] [] := ⟨rfl, rfl, by decide, fun i c hc => by simp at hc⟩
  have hv0 : am_RS (am_X k b) [] [Value.ref am_SB] [Value.ref b] := ⟨am_RV_mkx (Nat.lt_irrefl _) (by unfold am_X; rw [if_pos rfl]), trivial⟩
  have hlen0 : (am_slots [Value.ref am_SB]).length ≤ 7 := by decide
  have hl0 := am_RL_entry (am_X_ok k b) hv0 hlen0
  rw [lg_entry_eq]
  refine sim_exec (M := (⟨"PebbleProofsLaw", meth.name, "([I)Z"⟩, am_M299.2)) (Q := lw_Z below #[Value.ref b] s) (as0 := []) (res := (.inl (some (.int 1)), h1, kk, nn)) C rfl (am_lawB2 meth.name) (am_h0 rfl) (Or.inl rfl) (fun mi Y h => (am_prog_ok mi Y h).1) (fun mi Y vs h2 res1 q1 q2 => sim_all hfl (am_thN_ok l k b) am_prog_ok 11 f mi Y vs h2 res1 q1 q2) hkk hnn ?_ ?_ ?_ f 0 _ [] [] 0 0 hrun2 [] [] _ [] s.heap [] ⟨⟨[], rfl⟩, hl0, trivial, hW0, hP0, hD0, va_S.rf⟩
  · intro pc i ls st h v as2 ws2 ls1 st1 H locs hdg hk1 hv hres Rl
    have hv1 : v = some (.int 1) := by cases hres; rfl
    subst hv1
    obtain ⟨-, -, hst, -, -, -, hS⟩ := Rl
    have hloc : ∀ q ∈ locs, s.heap.size ≤ q.base := fun q hq => by have h9 := hS.2.2 q hq; rw [hAk] at h9; exact h9
    unfold am_ret at hv
    split at hv
    · next x ty =>
      split at hv
      · cases hv
        obtain ⟨r, rfl, hr0⟩ := am_RS_int hst
        obtain rfl := am_RS_nil hr0
        have w0 := lw_ret (p := p) (l := l) (e := e) (s := s) (m := m) (below := below) (meth := meth) (c := c) (b := b) hx hb hr hlocks (pc := pc) (H := H) (ls := ls1) hdg
        have w1 := W.widen hkk hnn w0
        have w2 := W.forget (L := locs) hloc w1
        rw [List.nil_append] at w2
        exact w2
      · cases hv
    · cases hv
    · split at hv <;> cases hv
    · cases hv
    · cases hv
    · cases hv
  · intro E J ls st h cells slots as2 ws2 ls1 st1 H locs _ _ _ _ _ _ hres _
    cases hres
  · intro pc X h ce q9 as2 ws2 ls1 H locs rest1 _ hres
    cases hres
