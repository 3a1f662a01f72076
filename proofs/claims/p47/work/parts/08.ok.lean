/-! ===== what holds of the machine at a method's entry, and what the tables say of each instruction ===== -/
def am_isn : Jvm.Cond → Bool
  | .declares _ => true
  | .castable _ _ => true
  | .methodLinkNest _ _ _ _ => true
  | .fieldLinkNest _ _ _ _ _ _ => true
  | _ => false
/-- the class of arrays of arrays -/
def am_AA (ty : FieldType) (U : State) : Prop := (Jvm.Cond.arrayOver (.array ty)).before #[] U = true
theorem am_AA.moved {ty : FieldType} {u U : State} (hvm : u.vm.Alike U.vm) (h : am_AA ty u) : am_AA ty U := by
  obtain ⟨comp, c, k, h1, h2, h3, h4, h5⟩ := arrayOverA_spec h
  obtain ⟨k', hk', he⟩ := hvm.2.2 _ _ h3
  have hi := (hvm.findIdx?_eq _ (fun _ => rfl)).trans h2
  have hkind : k'.kind = .array comp (.array ty) := by rw [he]; exact h4
  have f1 : U.vm.findClass (FieldType.array ty).toString = some comp := by rw [hvm.findClass]; exact h1
  have f2 : U.vm.findClass ("[" ++ (FieldType.array ty).toString) = some c := by rw [hvm.findClass]; exact h5
  unfold am_AA Cond.before Cond.holds
  simp only [Cond.value]
  rw [f1, Option.bind_some]
  refine (congrArg (fun z => z == some true) (congrArg (fun z => Option.bind z _) hi)).trans ?_
  rw [Option.bind_some, hk', Option.map_some]
  simp only [hkind, f2]
  simp
def am_itH : MethodName := ⟨"java/util/Iterator", "hasNext", "()Z"⟩
def am_itN : MethodName := ⟨"java/util/Iterator", "next", "()Ljava/lang/Object;"⟩
def am_aiH : MethodName := ⟨"java/util/ArrayList$Itr", "hasNext", "()Z"⟩
def am_aiN : MethodName := ⟨"java/util/ArrayList$Itr", "next", "()Ljava/lang/Object;"⟩
/-- the statics that are read, the classes of arrays, the interface, the script -/
def am_Ws (k : AK) (U : State) : Prop := va_Z "java/util/ArrayList" "DEFAULTCAPACITY_EMPTY_ELEMENTDATA" "[Ljava/lang/Object;" (.ref (k.2.2.2.2 100)) (am_A k) U U.heap ∧ va_Z "java/lang/Integer" "DigitOnes" "[B" (.ref (k.2.2.2.2 101)) (am_A k) U U.heap ∧ va_Z "java/lang/Integer" "DigitTens" "[B" (.ref (k.2.2.2.2 102)) (am_A k) U U.heap
def am_Wi (U : State) : Prop := va_AO "java/lang/Object" U ∧ am_AA .boolean U ∧ am_AA .int U ∧ va_Fw "java/util/ArrayList$Itr" am_itH am_aiH U ∧ va_Fw "java/util/ArrayList$Itr" am_itN am_aiN U
def am_Wx (k : AK) (b : Nat) (scr : ASc) (U : State) : Prop := ∀ n f, scr = some (n, f) → va_X b n f U U.heap ∧ b < U.heap.size ∧ ¬ am_A k b
def am_Wd (k : AK) (b : Nat) (scr : ASc) (U : State) : Prop :=
  va_K k.2.1 am_cl (am_tys k.2.2.1) U ∧ k.1 ≤ U.heap.size ∧ am_Str k U U.heap ∧ (∀ q ∈ am_sr, vk_R q.1 q.2.1 (am_txs q.2.2) (k.2.2.2.1 q.2.2) U) ∧ va_Z "java/lang/String" "COMPACT_STRINGS" "Z" (.int 1) (am_A k) U U.heap ∧ va_Zq "jdk/internal/util/Preconditions" "SIOOBE_FORMATTER" "Ljava/util/function/BiFunction;" (am_A k) U U.heap ∧
  vx_Zq Bundle.tN "UNASSIGNED_STACK" Bundle.steD (am_A k) U U.heap ∧ vx_Zq Bundle.tN "SUPPRESSED_SENTINEL" Bundle.listD (am_A k) U U.heap ∧ va_AO "PebbleProofs$Board" U ∧ va_AO "PebbleProofs$FailingPiles" U ∧ (∀ w ∈ lw_tbl, am_isn w = true → va_Nw w U) ∧ (∀ own idx tx, Jvm.Cond.stringRef own idx tx ∈ lw_tbl → ∃ a, vk_R own idx tx a U) ∧ (∀ i j, i < 3 → j < 3 → ¬ i = j → va_Nc (am_exn i) (am_exn j) U) ∧ am_Ws k U ∧ am_Wi U ∧ am_Wx k b scr U
/-- it holds at a callee's entry -/
theorem am_Wd.go {k : AK} {b : Nat} {scr : ASc} {s U : State} {H : Heap} {locs : List Loc} (h : am_Wd k b scr s) (hS : va_S (am_A k) s.heap H locs) (hU : U.heap = H) (hW : s.WarmedH U.vm) : am_Wd k b scr U := by
  obtain ⟨h1, h2, h3, h4, h5, h6, h7, h8, h9, h10, h11, h12, h13, ⟨h14, h15, h16⟩, ⟨h17, h18, h19, h20, h21⟩, h22⟩ := h
  have hal : s.vm.Alike U.vm := hW.alike
  have hq : ∀ a : Nat, a < s.heap.size → ¬ am_A k a → U.heap[a]? = s.heap[a]? := fun a ha hn => by rw [hU]; exact hS.2.1 a ha hn
  refine ⟨va_K.moved hal h1, Nat.le_trans h2 (by rw [hU]; exact hS.1), ⟨fun i hi => ?_, fun a n f ho => (va_T.moved hal (h3.2.1 a n f ho)).kept hq, (va_T.moved hal h3.2.2).kept hq⟩, fun q hm => vk_R.warm hW (h4 q hm), (va_Z.moved hal h5).kept hq, (va_Zq.moved hal h6).kept hq, (vx_Zq.moved hal h7).kept hq, (vx_Zq.moved hal h8).kept hq, va_AO.moved hal h9, va_AO.moved hal h10, fun w hw hi => ?_, fun own idx tx hm => ?_, fun i j hi hj hij => va_Nc.moved hal (h13 i j hi hj hij),
    ⟨(va_Z.moved hal h14).kept hq, (va_Z.moved hal h15).kept hq, (va_Z.moved hal h16).kept hq⟩, ⟨va_AO.moved hal h17, am_AA.moved hal h18, am_AA.moved hal h19, va_Fw.moved (by decide) hal h20, va_Fw.moved (by decide) hal h21⟩, fun n f hn => ?_⟩
  · obtain ⟨a1, a2, a3⟩ := h3.1 i hi
    exact ⟨(va_O.moved hal a1).kept hq, (va_OF.moved hal a2).kept hq, (va_OF.moved hal a3).kept hq⟩
  · have hz := h11 w hw hi
    match w, hi with
    | .declares _, _ => exact va_Nw.warmD hW hz
    | .castable _ _, _ => exact va_Nw.warmC hW hz
    | .methodLinkNest _ _ _ _, _ => exact va_Nw.warmM hW hz
    | .fieldLinkNest _ _ _ _ _ _, _ => exact va_Nw.warmF hW hz
  · obtain ⟨a, ha⟩ := h12 own idx tx hm
    exact ⟨a, vk_R.warm hW ha⟩
  · obtain ⟨x1, x2, x3⟩ := h22 n f hn
    exact ⟨(va_X.moved hal x1).kept (hq b x2 x3), Nat.lt_of_lt_of_le x2 (by rw [hU]; exact hS.1), x3⟩
/-- it doesn't look at the frames -/
theorem am_Wd.blind {k : AK} {b : Nat} {scr : ASc} {U : State} (h : am_Wd k b scr U) (a : Array Value) (g : JFrame) (mk : MethodId) : am_Wd k b scr (U.calling g mk a) := by
  obtain ⟨h1, h2, h3, h4, h5, h6, h7, h8, h9, h10, h11, h12, h13, ⟨h14, h15, h16⟩, ⟨h17, h18, h19, h20, h21⟩, h22⟩ := h
  have hal : U.vm.Alike (U.calling g mk a).vm := Vm.Alike.refl U.vm
  refine ⟨va_K.moved (u := U) hal h1, h2, ⟨fun i hi => ?_, fun a n f ho => va_T.moved (u := U) hal (h3.2.1 a n f ho), va_T.moved (u := U) hal h3.2.2⟩, fun q hm => vk_R.same (u := U) rfl (h4 q hm), va_Z.moved (u := U) hal h5, va_Zq.moved (u := U) hal h6, vx_Zq.moved (u := U) hal h7, vx_Zq.moved (u := U) hal h8, va_AO.moved (u := U) hal h9, va_AO.moved (u := U) hal h10, fun w hw hi => ?_, fun own idx tx hm => ?_, fun i j hi hj hij => va_Nc.moved (u := U) hal (h13 i j hi hj hij),
    ⟨va_Z.moved (u := U) hal h14, va_Z.moved (u := U) hal h15, va_Z.moved (u := U) hal h16⟩, ⟨va_AO.moved (u := U) hal h17, am_AA.moved (u := U) hal h18, am_AA.moved (u := U) hal h19, va_Fw.moved (u := U) (by decide) hal h20, va_Fw.moved (u := U) (by decide) hal h21⟩, fun n f hn => ?_⟩
  · obtain ⟨a1, a2, a3⟩ := h3.1 i hi
    exact ⟨va_O.moved (u := U) hal a1, va_OF.moved (u := U) hal a2, va_OF.moved (u := U) hal a3⟩
  · have hz := h11 w hw hi
    match w, hi with
    | .declares _, _ => exact va_Nw.same (u := U) rfl rfl hz
    | .castable _ _, _ => exact va_Nw.same (u := U) rfl rfl hz
    | .methodLinkNest _ _ _ _, _ => exact va_Nw.same (u := U) rfl rfl hz
    | .fieldLinkNest _ _ _ _ _ _, _ => exact va_Nw.same (u := U) rfl rfl hz
  · obtain ⟨q, hq⟩ := h12 own idx tx hm
    exact ⟨q, vk_R.same (u := U) rfl hq⟩
  · obtain ⟨x1, x2, x3⟩ := h22 n f hn
    exact ⟨va_X.moved (u := U) hal x1, x2, x3⟩
theorem am_Oc : ∀ ci, ci < 12 → ∀ q, am_cl[ci]? = some q → Jvm.Cond.castable q.1 "java/lang/Object" ∈ lw_tbl := by
  intro ci h q hq
  match ci, h, hq with
  | 0, _, hq => cases hq; decide +kernel
  | 1, _, hq => cases hq; decide +kernel
  | 2, _, hq => cases hq; decide +kernel
  | 3, _, hq => cases hq; decide +kernel
  | 4, _, hq => cases hq; decide +kernel
  | 5, _, hq => cases hq; decide +kernel
  | 6, _, hq => cases hq; decide +kernel
  | 7, _, hq => cases hq; decide +kernel
  | 8, _, hq => cases hq; decide +kernel
  | 9, _, hq => cases hq; decide +kernel
  | 10, _, hq => cases hq; decide +kernel
  | 11, _, hq => cases hq; decide +kernel
theorem am_Ot : ∀ t, t < 8 → Jvm.Cond.castable ("[" ++ (am_el t).toString) "java/lang/Object" ∈ lw_tbl := by decide +kernel
theorem am_Wd.isO {k : AK} {b : Nat} {scr : ASc} {U : State} (h : am_Wd k b scr U) : am_isO U := by
  obtain ⟨-, -, -, -, -, -, -, -, -, -, h11, -⟩ := h
  exact ⟨fun ci q hq => h11 _ (am_Oc ci (am_cl_lt hq) q hq) rfl, fun t ht => h11 _ (am_Ot t ht) rfl⟩
/-- a word by its place: chunk 0 the private methods' own, then the tables' eight -/
def am_chunk : Nat → List Jvm.Cond
  | 0 => k2_sels lw_privs
  | 1 => tables_1_1
  | 2 => tables_1_2
  | 3 => tables_1_3
  | 4 => tables_1_4
  | 5 => tables_1_5
  | 6 => tables_1_6
  | 7 => tables_1_7
  | 8 => lw_ups
  | _ => []
def am_wd (q : Nat × Nat) : Option Jvm.Cond := (am_chunk q.1)[q.2]?
theorem am_chunk_in {i : Nat} {w : Jvm.Cond} (h : w ∈ am_chunk i) : w ∈ lw_tbl := by
  show w ∈ (k2_sels lw_privs ++ tables_1) ++ lw_ups
  rw [tables_1]
  simp only [List.mem_append]
  match i, h with
  | 0, h => exact Or.inl (Or.inl h)
  | 1, h => exact Or.inl (Or.inr (Or.inl h))
  | 2, h => exact Or.inl (Or.inr (Or.inr (Or.inl h)))
  | 3, h => exact Or.inl (Or.inr (Or.inr (Or.inr (Or.inl h))))
  | 4, h => exact Or.inl (Or.inr (Or.inr (Or.inr (Or.inr (Or.inl h)))))
  | 5, h => exact Or.inl (Or.inr (Or.inr (Or.inr (Or.inr (Or.inr (Or.inl h))))))
  | 6, h => exact Or.inl (Or.inr (Or.inr (Or.inr (Or.inr (Or.inr (Or.inr (Or.inl h)))))))
  | 7, h => exact Or.inl (Or.inr (Or.inr (Or.inr (Or.inr (Or.inr (Or.inr (Or.inr h)))))))
  | 8, h => exact Or.inr h
  | (n + 9), h => exact absurd h List.not_mem_nil
theorem am_wd_in {q : Nat × Nat} {w : Jvm.Cond} (h : am_wd q = some w) : w ∈ lw_tbl := am_chunk_in (List.mem_of_getElem? h)
def am_hs (q : Nat × Nat) (w : Jvm.Cond) : Bool := decide (am_wd q = some w) && goodWord w
theorem am_hs_in {q : Nat × Nat} {w : Jvm.Cond} (h : am_hs q w = true) : w ∈ am_T := by
  simp only [am_hs, Bool.and_eq_true, decide_eq_true_eq] at h
  exact am_T_in (am_wd_in h.1) h.2
def am_len : Instr → Nat
  | .bipush _ | .ldc _ | .iload _ | .lload _ | .aload _ | .istore _ | .lstore _ | .astore _ | .newarray _ => 2
  | .sipush _ | .ldc_w _ | .ldc2_w _ | .iinc _ _ | .goto _ | .ifCond _ _ | .if_acmp _ _ | .checkcast _ | .if_icmp _ _ | .ifnull _ | .ifnonnull _ | .getfield _ | .putfield _ | .getstatic _ | .new _ | .anewarray _ | .invokestatic _ | .invokevirtual _ | .invokespecial _ => 3
  | .multianewarray _ _ => 4
  | .invokeinterface _ _ => 5
  | _ => 1
def am_dec (cc : ByteArray) (pc : Nat) (i : Instr) (n : Nat) : Bool := match decode cc pc with
  | .ok (j, m) => decide (j = i) && m == n
  | _ => false
theorem am_dec_ok {cc : ByteArray} {pc n : Nat} {i : Instr} (h : am_dec cc pc i n = true) : decode cc pc = .ok (i, n) := by
  unfold am_dec at h
  split at h
  · next j m hj =>
    simp only [Bool.and_eq_true, decide_eq_true_eq, beq_iff_eq] at h
    rw [hj, h.1, h.2]
  · cases h
def am_np (Y : AMe) : Nat := Y.2.2.2.1
def am_xn : List String := ["java/lang/RuntimeException", "java/lang/Exception"]
/-- what follows an exception's 'new': dup, its text, its constructor, athrow -/
def am_okT (own : String) (cc : ByteArray) (pc ik r2 : Nat) (J : List (Nat × Nat)) : Bool :=
  am_hs (J.getD 0 (99, 0)) (.classLink own ik (am_exn r2)) && am_hs (J.getD 1 (99, 0)) (.initialized (am_exn r2)) && am_dec cc (pc + 3) .dup 1 &&
  (match decode cc (pc + 4), am_wd (J.getD 2 (99, 0)) with
  | .ok (.ldc is, 2), some (.stringRef o i _) => decide (o = own) && i == is && am_dec cc (pc + 9) .athrow 1 && (match decode cc (pc + 6) with
    | .ok (.invokespecial ic, 3) => decide (own = "PebbleProofs") && ic == am_ic r2
    | _ => false)
  | .ok (.ldc_w is, 3), some (.stringRef o i _) => decide (o = own) && i == is && am_dec cc (pc + 10) .athrow 1 && (match decode cc (pc + 7) with
    | .ok (.invokespecial ic, 3) => decide (own = "PebbleProofs") && ic == am_ic r2
    | _ => false)
  | _, _ => false)
/-- a field's link, direct or of a nest mate -/
def am_okG (own : String) (idx : Nat) (q : String × String × String × Bool) (a b : Nat × Nat) : Bool := match am_wd a with
  | some (.fieldLink o i ref n d) => decide (o = own) && i == idx && decide (n = q.2.1) && decide (d = q.2.2.1) && am_hs a (.fieldLink o i ref n d) && (decide (ref = q.1) || am_hs b (.sameField ref q.1 q.2.1 q.2.2.1))
  | _ => false
def am_okF (own : String) (idx : Nat) (q : String × String × String × Bool) (a b : Nat × Nat) : Bool := am_okG own idx q a b || (match am_wd a with
  | some (.fieldLinkNest o i ref n d _) => decide (o = own) && i == idx && decide (ref = q.1) && decide (n = q.2.1) && decide (d = q.2.2.1)
  | _ => false)
def am_okN (own : String) (idx : Nat) (y : MethodName) (a : Nat × Nat) : Bool := match am_wd a with
  | some (.methodLinkNest o i x _) => decide (o = own) && i == idx && decide (x = y)
  | _ => false
theorem am_okG_ok {own : String} {idx : Nat} {q : String × String × String × Bool} {a b : Nat × Nat} (h : am_okG own idx q a b = true) : ∃ ref, Jvm.Cond.fieldLink own idx ref q.2.1 q.2.2.1 ∈ am_T ∧ (ref = q.1 ∨ Jvm.Cond.sameField ref q.1 q.2.1 q.2.2.1 ∈ am_T) := by
  unfold am_okG at h
  split at h
  · next o i ref n d hw =>
    simp only [Bool.and_eq_true, Bool.or_eq_true, decide_eq_true_eq, beq_iff_eq] at h
    obtain ⟨⟨⟨⟨⟨rfl, rfl⟩, rfl⟩, rfl⟩, h5⟩, h6⟩ := h
    exact ⟨ref, am_hs_in h5, h6.imp id am_hs_in⟩
  · cases h
theorem am_okN_ok {own : String} {idx : Nat} {y : MethodName} {a : Nat × Nat} (h : am_okN own idx y a = true) : ∃ host, Jvm.Cond.methodLinkNest own idx y host ∈ lw_tbl := by
  unfold am_okN at h
  split at h
  · next o i x host hw =>
    simp only [Bool.and_eq_true, decide_eq_true_eq, beq_iff_eq] at h
    obtain ⟨⟨rfl, rfl⟩, rfl⟩ := h
    exact ⟨host, am_wd_in hw⟩
  · cases h
theorem am_okF_ok {own : String} {idx : Nat} {q : String × String × String × Bool} {a b : Nat × Nat} {s : State} (hN : ∀ w ∈ lw_tbl, am_isn w = true → va_Nw w s) (h : am_okF own idx q a b = true) : (∃ ref, Jvm.Cond.fieldLink own idx ref q.2.1 q.2.2.1 ∈ am_T ∧ (ref = q.1 ∨ Jvm.Cond.sameField ref q.1 q.2.1 q.2.2.1 ∈ am_T)) ∨ (∃ host, va_Nw (.fieldLinkNest own idx q.1 q.2.1 q.2.2.1 host) s) := by
  unfold am_okF at h
  rw [Bool.or_eq_true] at h
  rcases h with h | h
  · exact Or.inl (am_okG_ok h)
  · split at h
    · next o i ref n d host hw =>
      simp only [Bool.and_eq_true, decide_eq_true_eq, beq_iff_eq] at h
      obtain ⟨⟨⟨⟨rfl, rfl⟩, rfl⟩, rfl⟩, rfl⟩ := h
      exact Or.inr ⟨host, hN _ (am_wd_in hw) rfl⟩
    · cases h
/-- an array's clone() -/
def am_okC (own : String) (idx : Nat) (ad : String) (J : List (Nat × Nat)) : Bool := am_hs (J.getD 0 (99, 0)) (.methodLink own idx ⟨ad, "clone", "()Ljava/lang/Object;"⟩) && am_hs (J.getD 1 (99, 0)) (.sameMethod ad "java/lang/Object" "clone" "()Ljava/lang/Object;") && am_hs (J.getD 2 (99, 0)) (.native ⟨"java/lang/Object", "clone", "()Ljava/lang/Object;"⟩) && am_hs (J.getD 3 (99, 0)) (.instanceMethod ⟨"java/lang/Object", "clone", "()Ljava/lang/Object;"⟩) && am_hs (J.getD 4 (99, 0)) (.selects ad ⟨ad, "clone", "()Ljava/lang/Object;"⟩ ⟨"java/lang/Object", "clone", "()Ljava/lang/Object;"⟩) && decide (am_wd (J.getD 5 (99, 0)) = some (.castable ad "java/lang/Cloneable"))
/-- a method of StringBuilder's parent class, found by the receiver -/
def am_okU (own : String) (idx : Nat) (y : MethodName) (J : List (Nat × Nat)) : Bool := match am_wd (J.getD 0 (99, 0)), am_wd (J.getD 6 (99, 0)) with
  | some (.methodLink o i x), some (.code z _ _ _) => decide (o = own) && i == idx && decide (z = x) && decide (x.cls = "java/lang/AbstractStringBuilder") && decide (x.desc = y.desc) && am_hs (J.getD 0 (99, 0)) (.methodLink o i x) && am_hs (J.getD 2 (99, 0)) (.selects "java/lang/StringBuilder" x y) && am_hs (J.getD 4 (99, 0)) (.sameMethod x.cls "java/lang/AbstractStringBuilder" x.name x.desc) && am_hs (J.getD 5 (99, 0)) (.instanceMethod x) && goodWord ((am_wd (J.getD 6 (99, 0))).getD .tt)
  | _, _ => false
theorem am_okU_ok {own : String} {idx : Nat} {y : MethodName} {J : List (Nat × Nat)} (h : am_okU own idx y J = true) : ∃ (x : MethodName) (b : ByteArray) (m : Nat) (r : Option FieldType), x.cls = "java/lang/AbstractStringBuilder" ∧ x.desc = y.desc ∧ Jvm.Cond.methodLink own idx x ∈ am_T ∧ Jvm.Cond.selects "java/lang/StringBuilder" x y ∈ am_T ∧ Jvm.Cond.sameMethod x.cls "java/lang/AbstractStringBuilder" x.name x.desc ∈ am_T ∧ Jvm.Cond.instanceMethod x ∈ am_T ∧ Jvm.Cond.code x b m r ∈ am_T := by
  unfold am_okU at h
  split at h
  · next o i x z b m r h0 h6 =>
    simp only [Bool.and_eq_true, decide_eq_true_eq, beq_iff_eq] at h
    obtain ⟨⟨⟨⟨⟨⟨⟨⟨⟨rfl, rfl⟩, rfl⟩, a1⟩, a2⟩, a3⟩, a4⟩, a5⟩, a6⟩, a7⟩ := h
    refine ⟨z, b, m, r, a1, a2, am_hs_in a3, am_hs_in a4, am_hs_in a5, am_hs_in a6, am_T_in (am_wd_in h6) ?_⟩
    rw [h6] at a7
    exact a7
  · cases h
def am_okI (own nm : String) (cc : ByteArray) (pc : Nat) (i : Instr) (r1 r2 : Nat) (J : List (Nat × Nat)) : Bool := match i with
  | .goto off => decide ((pc : Int) + off = (r1 : Int))
  | .ifCond _ off => decide ((pc : Int) + off = (r1 : Int))
  | .if_icmp _ off => decide ((pc : Int) + off = (r1 : Int))
  | .ifnull off => decide ((pc : Int) + off = (r1 : Int))
  | .ifnonnull off => decide ((pc : Int) + off = (r1 : Int))
  | .ldc idx => (r1 != 0 || am_hs (J.getD 0 (99, 0)) (.constant own idx (Int32.ofNat r2))) && (r1 != 1 || decide ((own, idx, r2) ∈ am_sr))
  | .ldc_w idx => (r1 != 0 || am_hs (J.getD 0 (99, 0)) (.constant own idx (Int32.ofNat r2))) && (r1 != 1 || decide ((own, idx, r2) ∈ am_sr))
  | .if_acmp _ off => decide ((pc : Int) + off = (r1 : Int))
  | .checkcast idx => (r1 != 7 || am_hs (J.getD 0 (99, 0)) (.classLink own idx "PebbleProofsLaw$Yard")) && (r1 != 100 || am_hs (J.getD 0 (99, 0)) (.classLink own idx "[I")) && (r1 != 102 || am_hs (J.getD 0 (99, 0)) (.classLink own idx "[B"))
  | .multianewarray idx d => d == 2 && (r1 != 6 || am_hs (J.getD 0 (99, 0)) (.classLink own idx "[[Z")) && (r1 != 7 || am_hs (J.getD 0 (99, 0)) (.classLink own idx "[[I"))
  | .ldc2_w idx => am_hs (J.getD 0 (99, 0)) (.constantLong own idx (Int64.ofNat r1))
  | .getfield idx => match am_cl[r1]? with
    | some q => decide (r2 < q.2.2) && am_okF own idx (q.2.1 r2) (J.getD 0 (99, 0)) (J.getD 1 (99, 0)) && (r1 != 8 || am_hs (J.getD 0 (99, 0)) (.fieldLink own idx "java/lang/String" (am_T8 r2).2.1 (am_T8 r2).2.2.1))
    | none => true
  | .putfield idx => match am_cl[r1]? with
    | some q => decide (r2 < q.2.2) && am_okG own idx (q.2.1 r2) (J.getD 0 (99, 0)) (J.getD 1 (99, 0)) && ((q.2.1 r2).2.2.2 == false || (nm == "<init>" && (q.2.1 r2).1 == own))
    | none => true
  | .getstatic idx => (r1 != 0 || am_hs (J.getD 0 (99, 0)) (.fieldLink own idx "java/lang/String" "COMPACT_STRINGS" "Z")) && (r1 != 1 || am_hs (J.getD 0 (99, 0)) (.fieldLink own idx "jdk/internal/util/Preconditions" "SIOOBE_FORMATTER" "Ljava/util/function/BiFunction;")) && (r1 != 2 || am_hs (J.getD 0 (99, 0)) (.fieldLink own idx "java/util/ArrayList" "DEFAULTCAPACITY_EMPTY_ELEMENTDATA" "[Ljava/lang/Object;")) && (r1 != 3 || am_hs (J.getD 0 (99, 0)) (.fieldLink own idx "java/lang/Integer" "DigitOnes" "[B")) && (r1 != 4 || am_hs (J.getD 0 (99, 0)) (.fieldLink own idx "java/lang/Integer" "DigitTens" "[B"))
  | .new idx => if r1 = 1000 then am_okT own cc pc idx r2 J else match am_cl[r1]? with
    | some q => am_hs (J.getD 0 (99, 0)) (.classLink own idx q.1) && am_hs (J.getD 1 (99, 0)) (.instantiable q.1 q.2.2) && am_hs (J.getD 2 (99, 0)) (.initialized q.1)
    | none => decide (r1 = 1001)
  | .anewarray idx => (r1 != 3 || am_hs (J.getD 0 (99, 0)) (.classLink own idx "PebbleProofs$Board")) && (r1 != 4 || am_hs (J.getD 0 (99, 0)) (.classLink own idx "PebbleProofs$FailingPiles")) && (r1 != 5 || am_hs (J.getD 0 (99, 0)) (.classLink own idx "java/lang/Object"))
  | .invokestatic idx => if r1 = 900 then am_hs (J.getD 0 (99, 0)) (.methodLink own idx arraycopyName) && am_hs (J.getD 1 (99, 0)) (.native arraycopyName) && am_hs (J.getD 2 (99, 0)) (.static arraycopyName) && am_hs (J.getD 3 (99, 0)) (.initialized "java/lang/System")
    else if r1 = 902 then am_hs (J.getD 0 (99, 0)) (.methodLink own idx Lib.Math.max.name) && am_hs (J.getD 1 (99, 0)) (.static Lib.Math.max.name) && am_hs (J.getD 2 (99, 0)) (.initialized "java/lang/Math") && am_hs (J.getD 3 (99, 0)) (.code Lib.Math.max.name Lib.Math.max.code 2 (some .int))
    else if r1 = 903 then am_hs (J.getD 0 (99, 0)) (.methodLink own idx Lib.Math.min.name) && am_hs (J.getD 1 (99, 0)) (.static Lib.Math.min.name) && am_hs (J.getD 2 (99, 0)) (.initialized "java/lang/Math") && am_hs (J.getD 3 (99, 0)) (.code Lib.Math.min.name Lib.Math.min.code 2 (some .int))
    else match am_prog r1 with
    | some Y => (am_hs (J.getD 0 (99, 0)) (.methodLink own idx Y.1) || (am_okN own idx Y.1 (J.getD 0 (99, 0)) && decide (Y.2.2.2.2.2.1 = []))) && am_hs (J.getD 1 (99, 0)) (.static Y.1) && am_hs (J.getD 2 (99, 0)) (.initialized Y.1.cls) && r2 == am_np Y
    | none => true
  | .invokevirtual idx => if r1 = 904 then am_okC own idx "[I" J else if r1 = 905 then am_okC own idx "[B" J else match am_prog r1 with
    | some Y => am_hs (J.getD 1 (99, 0)) (.instanceMethod Y.1) && am_hs (J.getD 3 (99, 0)) (.initialized Y.1.cls) && r2 == am_np Y + 1 && decide (Y.2.2.2.2.2.1 = []) && (if J.length = 4 then am_hs (J.getD 0 (99, 0)) (.methodLink own idx Y.1) && am_hs (J.getD 2 (99, 0)) (.selects Y.1.cls Y.1 Y.1) && decide (¬ Y.1.cls = "java/lang/AbstractStringBuilder") else decide (Y.1.cls = "java/lang/StringBuilder" ∨ Y.1.cls = "java/lang/AbstractStringBuilder") && am_okU own idx Y.1 J)
    | none => true
  | .invokeinterface idx _ => match am_prog r1 with
    | some Y => am_hs (J.getD 0 (99, 0)) (.methodLink own idx ⟨"java/util/Iterator", Y.1.name, Y.1.desc⟩) && am_hs (J.getD 1 (99, 0)) (.selects "java/util/ArrayList$Itr" ⟨"java/util/Iterator", Y.1.name, Y.1.desc⟩ Y.1) && am_hs (J.getD 2 (99, 0)) (.instanceMethod Y.1) && am_hs (J.getD 3 (99, 0)) (.initialized Y.1.cls) && decide (Y.1 = am_aiH ∨ Y.1 = am_aiN) && r2 == am_np Y + 1 && decide (Y.2.2.2.2.2.1 = [])
    | none => true
  | .invokespecial idx => if r1 = 901 then am_hs (J.getD 0 (99, 0)) (.methodLink own idx Lib.objectInit) && am_hs (J.getD 1 (99, 0)) (.instanceMethod Lib.objectInit) && am_hs (J.getD 2 (99, 0)) (.code Lib.objectInit ⟨#[0xb1]⟩ 1 none) else match am_prog r1 with
    | some Y => (am_hs (J.getD 0 (99, 0)) (.methodLink own idx Y.1) || am_okN own idx Y.1 (J.getD 0 (99, 0))) && am_hs (J.getD 1 (99, 0)) (.instanceMethod Y.1) && am_hs (J.getD 2 (99, 0)) (.initialized Y.1.cls) && r2 == am_np Y + 1 && decide (Y.2.2.2.2.2.1 = []) && (if 400 ≤ r1 then am_hs (J.getD 0 (99, 0)) (.methodLink own idx Y.1) && am_hs (J.getD 3 (99, 0)) (.sameMethod Y.1.cls Y.1.cls Y.1.name Y.1.desc) && am_hs (J.getD 4 (99, 0)) (.superclass own Y.1.cls) && Y.1.name != "<init>" else decide (Y.2.2.2.2.1 = none) && Y.1.name == "<init>")
    | none => true
  | _ => true
def am_okE (own nm : String) (cc : ByteArray) (E : AEn) (J : List (Nat × Nat)) : Bool :=
  am_dec cc E.1 E.2.1 (match E.2.1 with
    | .tableswitch _ _ _ _ => E.2.2.2
    | i => am_len i) && am_okI own nm cc E.1 E.2.1 E.2.2.1 E.2.2.2 J
section AMS2
variable {p : Program} {l : Launch} {e : Env} {R : Room} {s : State} {m : MethodId} {args : Array Value} {below : List Frame} {meth : Method} {c : Code} {Q : State → Prop} {k : AK} {b nL : Nat} {as0 as : List Nat} {ws : va_W} {ls : ALs} {st : List Value} {h : AHp} {ls1 : Array Slot} {st1 : List Value} {H : Heap} {locs : List Loc} {cells slots : Nat} {S : ASt} {cc : ByteArray} {own nm : String} {scr : ASc}
/-- a frame: what stays the same while it runs -/
def am_Cx (p : Program) (l : Launch) (R : Room) (s : State) (m : MethodId) (args : Array Value) (meth : Method) (c : Code) (k : AK) (b nL : Nat) (cc : ByteArray) (own nm : String) (scr : ASc) (d : Nat) : Prop :=
  p.tables.exec = Jvm.exec ∧ c.code = cc ∧ c.maxLocals = nL ∧ s.vm.findClass own = some m.cls ∧ (∀ w ∈ am_T, w.before args s = true) ∧ meth.locks = false ∧ meth.name = nm ∧ am_Wd k b scr s ∧ 1 ≤ d ∧ d ≤ R.frames ∧ 35 * d ≤ R.locals ∧ l.stackTraces = false
theorem am_arr0 : (Jvm.Cond.arrayClass .int) ∈ am_T := am_T_in (by decide +kernel) (by decide +kernel)
theorem am_arr1 : (Jvm.Cond.arrayClass .boolean) ∈ am_T := am_T_in (by decide +kernel) (by decide +kernel)
theorem am_arr2 : (Jvm.Cond.arrayClass .byte) ∈ am_T := am_T_in (by decide +kernel) (by decide +kernel)
set_option maxRecDepth 100000 in
set_option maxHeartbeats 1000000 in
theorem sim_step {d : Nat} {E : AEn} {J : List (Nat × Nat)} (C : am_Cx p l R s m args meth c k b nL cc own nm scr d) (hk : am_kind E.2.1 E.2.2.1 = 0) (hok : am_okE own nm cc E J = true) (hs : am_step scr E ls st h = some S) (hrc : cells + S.2.2.2.2.1 ≤ R.cells) (hrs : slots + S.2.2.2.2.2 ≤ R.slots)
    (Rl : am_Rel k (am_X k b) nL s as0 as ws ls st h ls1 st1 H locs) (go : am_Go p l e R s m args below meth c Q k (am_X k b) nL as0 S cells slots) : W p l e R s m args below meth c H locs cells slots Q (F0 m E.1 ls1 st1) := by
  obtain ⟨pc, i, r1, r2⟩ := E
  obtain ⟨hx, hb, hml, hown, hts, hlocks, hnm, hWd, hd1, hd2, hd3, -⟩ := C
  have hO := hWd.isO
  obtain ⟨hK, hz, hstr, hvk, hz1, hz2, -, -, ho3, ho4, hN, -, -, ⟨hz3, hz4, hz5⟩, ⟨ho5, ha6, ha7, -, -⟩, hscr⟩ := hWd
  simp only [am_okE, Bool.and_eq_true] at hok
  obtain ⟨hdc, hoi⟩ := hok
  have hdg := am_dec_ok hdc
  have hXo := am_X_ok k b
  have hXr := am_X_ref k b
  have hXf := am_X_fun k b
  dsimp only at hdg hoi hk
  cases i with
  | iconst v => exact sim_push (v := .int (Int32.ofInt v)) (n := 1) ⟨.int (Int32.ofInt v), rfl, fun rest kk => lv_iconst hx hb hdg rfl kk⟩ hs Rl go
  | bipush v => exact sim_push (v := .int (Int8.ofInt v).toInt32) (n := 2) ⟨.int (Int8.ofInt v).toInt32, rfl, fun rest kk => lv_bipush hx hb hdg rfl kk⟩ hs Rl go
  | sipush v => exact sim_push (v := .int (Int16.ofInt v).toInt32) (n := 3) ⟨.int (Int16.ofInt v).toInt32, rfl, fun rest kk => lv_sipush hx hb hdg rfl kk⟩ hs Rl go
  | lconst v => exact sim_push (v := .long (Int64.ofNat (v : Nat))) (n := 1) ⟨.long (Int64.ofNat (v : Nat)), rfl, fun rest kk => lv_lconst hx hb hdg rfl kk⟩ hs Rl go
  | ldc idx =>
    simp only [am_okI, Bool.and_eq_true, Bool.or_eq_true, bne_iff_ne, ne_eq, decide_eq_true_eq] at hoi
    exact sim_ldc hx hb hts hown hvk hdg (fun q => hoi.1.elim (fun z => absurd q z) am_hs_in) (fun q => hoi.2.elim (fun z => absurd q z) id) hs Rl go
  | ldc_w idx =>
    simp only [am_okI, Bool.and_eq_true, Bool.or_eq_true, bne_iff_ne, ne_eq, decide_eq_true_eq] at hoi
    exact sim_ldcw hx hb hts hown hvk hdg (fun q => hoi.1.elim (fun z => absurd q z) am_hs_in) (fun q => hoi.2.elim (fun z => absurd q z) id) hs Rl go
  | ldc2_w idx =>
    simp only [am_okI] at hoi
    exact sim_push (v := .long (Int64.ofNat r1)) (n := 3) ⟨.long (Int64.ofNat r1), rfl, fun rest kk => lv_ldc2 hx hb hown (hts _ (am_hs_in hoi)) hdg kk⟩ hs Rl go
  | iload n => exact sim_ldi (fun q kk => lv_iload hx hb hdg q kk) hs Rl go
  | iload_n n => exact sim_ldi (fun q kk => lv_iload_n hx hb hdg rfl q kk) hs Rl go
  | lload n => exact sim_ldl (fun q kk => lv_lload hx hb hdg q kk) hs Rl go
  | lload_n n => exact sim_ldl (fun q kk => lv_lload_n hx hb hdg rfl q kk) hs Rl go
  | aload n => exact sim_lda hXo (fun q kk => lv_aload hx hb hdg q kk) (fun q kk => lv_aloadN hx hb hdg q kk) hs Rl go
  | aload_n n => exact sim_lda hXo (fun q kk => lv_aload_n hx hb hdg rfl q kk) (fun q kk => lv_aload_nN hx hb hdg rfl q kk) hs Rl go
  | istore n => exact sim_sti hXo (fun q1 q2 q3 kk => lv_istore hx hb hdg q1 q2 q3 kk) hs Rl go
  | istore_n n => exact sim_sti hXo (fun q1 q2 q3 kk => lv_istore_n hx hb hdg rfl q1 q2 q3 kk) hs Rl go
  | lstore n => exact sim_stl hXo (fun q1 q2 q3 kk => lv_lstore hx hb hdg q1 q2 q3 kk) hs Rl go
  | lstore_n n => exact sim_stl hXo (fun q1 q2 q3 kk => lv_lstore_n hx hb hdg rfl q1 q2 q3 kk) hs Rl go
  | astore n => exact sim_sta hXo hXr (fun q1 q2 q3 kk => lv_astore hx hb hdg q1 q2 q3 kk) (fun q1 q2 q3 kk => lv_astoreN hx hb hdg q1 q2 q3 kk) hs Rl go
  | astore_n n => exact sim_sta hXo hXr (fun q1 q2 q3 kk => lv_astore_n hx hb hdg rfl q1 q2 q3 kk) (fun q1 q2 q3 kk => lv_astore_nN hx hb hdg rfl q1 q2 q3 kk) hs Rl go
  | iinc j n => exact sim_inc hXo hx hb hdg hs Rl go
  | iadd => exact sim_ii (fun kk => lv_iadd hx hb hdg kk) hs Rl go
  | isub => exact sim_ii (fun kk => lv_isub hx hb hdg kk) hs Rl go
  | imul => exact sim_ii (fun kk => lv_imul hx hb hdg kk) hs Rl go
  | iand => exact sim_ii (fun kk => lv_iand hx hb hdg kk) hs Rl go
  | ior => exact sim_ii (fun kk => lv_ior hx hb hdg kk) hs Rl go
  | ixor => exact sim_ii (fun kk => lv_ixor hx hb hdg kk) hs Rl go
  | ishl => exact sim_ii (fun kk => lv_ishl hx hb hdg kk) hs Rl go
  | ishr => exact sim_ii (fun kk => lv_ishr hx hb hdg kk) hs Rl go
  | iushr => exact sim_ii (fun kk => lv_iushr hx hb hdg rfl kk) hs Rl go
  | idiv => exact sim_dv (fun q kk => lv_idiv hx hb hdg q kk) hs Rl go
  | irem => exact sim_dv (fun q kk => lv_irem hx hb hdg q kk) hs Rl go
  | ladd => exact sim_ll (fun kk => lv_ladd hx hb hdg kk) hs Rl go
  | lsub => exact sim_ll (fun kk => lv_lsub hx hb hdg kk) hs Rl go
  | land => exact sim_ll (fun kk => lv_land hx hb hdg kk) hs Rl go
  | lor => exact sim_ll (fun kk => lv_lor hx hb hdg kk) hs Rl go
  | lxor => exact sim_ll (fun kk => lv_lxor hx hb hdg kk) hs Rl go
  | lshl => exact sim_li (fun kk => lv_lshl hx hb hdg rfl kk) hs Rl go
  | lshr => exact sim_li (fun kk => lv_lshr hx hb hdg rfl kk) hs Rl go
  | lushr => exact sim_li (fun kk => lv_lushr hx hb hdg rfl kk) hs Rl go
  | i2l => exact sim_i1 (f := fun x => .long x.toInt64) (fun _ _ => rfl) (fun kk => lv_i2l hx hb hdg rfl kk) hs Rl go
  | i2c => exact sim_i1 (f := fun x => .int (x.toUInt32 % 65536).toInt32) (fun _ _ => rfl) (fun kk => lv_i2c hx hb hdg rfl kk) hs Rl go
  | i2b => exact sim_i1 (f := fun x => .int x.toInt8.toInt32) (fun _ _ => rfl) (fun kk => lv_i2b hx hb hdg rfl kk) hs Rl go
  | ineg => exact sim_i1 (f := fun x => .int (-x)) (fun _ _ => rfl) (fun kk => lv_ineg hx hb hdg kk) hs Rl go
  | aconst_null => exact sim_push (v := .null) (n := 1) ⟨.null, rfl, fun rest kk => lv_null hx hb hdg kk⟩ hs Rl go
  | dup_x1 => exact sim_dup1 hXo (fun q1 q2 kk => lv_dup_x1 hx hb hdg q1 q2 kk) hs Rl go
  | if_acmp cd off =>
    cases cd with
    | eq => exact sim_acq hXr hXf hx hb hdg (of_decide_eq_true hoi) hs Rl go
    | _ => cases hs
  | checkcast idx =>
    simp only [am_okI, Bool.and_eq_true, Bool.or_eq_true, bne_iff_ne, ne_eq] at hoi
    exact sim_cast hx hb hown hK ⟨fun q => hoi.1.1.elim (fun z => absurd q z) (fun z => hts _ (am_hs_in z)), fun q => hoi.1.2.elim (fun z => absurd q z) (fun z => hts _ (am_hs_in z)), fun q => hoi.2.elim (fun z => absurd q z) (fun z => hts _ (am_hs_in z))⟩ hdg hs Rl go
  | multianewarray idx dd =>
    simp only [am_okI, Bool.and_eq_true, Bool.or_eq_true, bne_iff_ne, ne_eq, beq_iff_eq] at hoi
    obtain ⟨⟨rfl, o1⟩, o2⟩ := hoi
    exact sim_newm hx hb hown hK hz (hts _ am_arr0) (hts _ am_arr1) ha6 ha7 ⟨fun q => o1.elim (fun z => absurd q z) (fun z => hts _ (am_hs_in z)), fun q => o2.elim (fun z => absurd q z) (fun z => hts _ (am_hs_in z))⟩ hdg hrc hrs hs Rl go
  | invokevirtual idx =>
    have hr1 : r1 = 904 ∨ r1 = 905 := by
      by_cases q : r1 = 904 ∨ r1 = 905
      · exact q
      · simp only [am_kind, if_neg q] at hk; cases hk
    rcases hr1 with rfl | rfl
    · simp only [am_okI, if_true, am_okC, Bool.and_eq_true, decide_eq_true_eq] at hoi
      exact sim_clone (Or.inl ⟨rfl, rfl⟩) hx hb hml hown hK hz hXo (hts _ (am_hs_in hoi.1.1.1.1.1)) (hts _ (am_hs_in hoi.1.1.1.1.2)) (hts _ (am_hs_in hoi.1.1.1.2)) (hts _ (am_hs_in hoi.1.1.2)) (hts _ (am_hs_in hoi.1.2)) (hN _ (am_wd_in hoi.2) rfl) hdg (by omega) (by omega) hrc hrs hs Rl go
    · simp only [am_okI, show ¬ (905 : Nat) = 904 by decide, if_false, if_true, am_okC, Bool.and_eq_true, decide_eq_true_eq] at hoi
      exact sim_clone (Or.inr ⟨rfl, rfl⟩) hx hb hml hown hK hz hXo (hts _ (am_hs_in hoi.1.1.1.1.1)) (hts _ (am_hs_in hoi.1.1.1.1.2)) (hts _ (am_hs_in hoi.1.1.1.2)) (hts _ (am_hs_in hoi.1.1.2)) (hts _ (am_hs_in hoi.1.2)) (hN _ (am_wd_in hoi.2) rfl) hdg (by omega) (by omega) hrc hrs hs Rl go
  | l2i => exact sim_l2i (fun kk => lv_l2i hx hb hdg rfl kk) hs Rl go
  | lcmp => exact sim_lcmp (fun kk => W.lcmp hx hb hdg kk) hs Rl go
  | dup => exact sim_dup hXo (fun q kk => lv_dup hx hb hdg q kk) hs Rl go
  | dup2 => exact sim_dup2 hXo (fun q1 q2 kk => lv_dup2_11 hx hb hdg q1 q2 kk) hs Rl go
  | pop => exact sim_pop hXo (fun q kk => lv_pop hx hb hdg q kk) hs Rl go
  | goto off => exact sim_goto hx hb hdg (of_decide_eq_true hoi) hs Rl go
  | ifCond cd off => exact sim_z hx hb hdg (of_decide_eq_true hoi) hs Rl go
  | if_icmp cd off => exact sim_c2 hx hb hdg (of_decide_eq_true hoi) hs Rl go
  | ifnull off => exact sim_nul hXr (fun kk => lv_ifnullN hx hb hdg (of_decide_eq_true hoi) kk) (fun kk => lv_ifnull hx hb hdg kk) hs Rl go
  | ifnonnull off => exact sim_nul hXr (fun kk => lv_ifnonnullN hx hb hdg kk) (fun kk => lv_ifnonnull hx hb hdg (of_decide_eq_true hoi) kk) hs Rl go
  | tableswitch dflt lo hi offs => exact sim_tsw hx hb hdg hs Rl go
  | getfield idx =>
    have hh : ∀ C T N, am_cl[r1]? = some (C, T, N) → r2 < N ∧ am_okF own idx (T r2) (J.getD 0 (99, 0)) (J.getD 1 (99, 0)) = true ∧ (r1 = 8 → Jvm.Cond.fieldLink own idx "java/lang/String" (am_T8 r2).2.1 (am_T8 r2).2.2.1 ∈ am_T) := by
      intro C T N hc
      simp only [am_okI] at hoi
      rw [hc] at hoi
      simp only [Bool.and_eq_true, Bool.or_eq_true, decide_eq_true_eq, bne_iff_ne, ne_eq] at hoi
      exact ⟨hoi.1.1, hoi.1.2, fun q => hoi.2.elim (fun z => absurd q z) am_hs_in⟩
    exact sim_get hx hb hts hown hK hstr hdg (fun C T N hc => ⟨(hh C T N hc).1, am_okF_ok hN (hh C T N hc).2.1⟩) (fun q => (hh "java/lang/String" am_T8 4 (by rw [q]; rfl)).2.2 q) hs Rl go
  | putfield idx =>
    refine sim_put hx hb hts hown hK hdg (fun C T N hc => ?_) hs Rl go
    simp only [am_okI] at hoi
    rw [hc] at hoi
    simp only [Bool.and_eq_true, Bool.or_eq_true, decide_eq_true_eq, beq_iff_eq] at hoi
    refine ⟨hoi.1.1, am_okG_ok hoi.1.2, ?_⟩
    cases hfin : (T r2).2.2.2 with
    | false => exact Or.inl rfl
    | true =>
      rcases hoi.2 with q | q
      · rw [hfin] at q; cases q
      · exact Or.inr ⟨rfl, by rw [hnm]; exact q.1, q.2⟩
  | getstatic idx =>
    simp only [am_okI, Bool.and_eq_true, Bool.or_eq_true, bne_iff_ne, ne_eq] at hoi
    exact sim_static hx hb hts hown hz1 hz2 hz3 hz4 hz5 hdg (fun q => hoi.1.1.1.1.elim (fun z => absurd q z) am_hs_in) (fun q => hoi.1.1.1.2.elim (fun z => absurd q z) am_hs_in) (fun q => hoi.1.1.2.elim (fun z => absurd q z) am_hs_in) (fun q => hoi.1.2.elim (fun z => absurd q z) am_hs_in) (fun q => hoi.2.elim (fun z => absurd q z) am_hs_in) hs Rl go
  | iaload => exact sim_iald hx hb hK hscr hdg hs Rl go
  | baload =>
    delta am_step at hs
    dsimp only at hs
    exact sim_bald hx hb hK hstr hdg hs Rl go
  | aaload => exact sim_aald hx hb hK hdg hs Rl go
  | iastore => exact sim_iast hx hb hK hdg hs Rl go
  | bastore => exact sim_bast hx hb hK hdg hs Rl go
  | aastore => exact sim_aast hx hb hK hO hdg hs Rl go
  | arraylength =>
    delta am_step at hs
    dsimp only at hs
    exact sim_alen hx hb hK hstr hscr hdg hs Rl go
  | new idx =>
    have hr1 : ¬ r1 = 1000 := fun q => by simp only [am_kind, if_pos q] at hk; cases hk
    simp only [am_okI, if_neg hr1] at hoi
    split at hoi
    · next q hq =>
      obtain ⟨C, T, N⟩ := q
      simp only [Bool.and_eq_true] at hoi
      exact sim_new hx hb hts hown hK hz hq hdg (am_hs_in hoi.1.1) (am_hs_in hoi.1.2) (am_hs_in hoi.2) hrc hrs hs Rl go
    · have h9 : r1 = 1001 := of_decide_eq_true hoi
      subst h9
      simp only [am_step, am_new] at hs
      rw [if_neg (by omega)] at hs
      cases hs
  | newarray t => exact sim_newa hx hb hK hz (hts _ am_arr0) (hts _ am_arr1) (hts _ am_arr2) hdg hrc hrs hs Rl go
  | anewarray idx =>
    simp only [am_okI, Bool.and_eq_true, Bool.or_eq_true, bne_iff_ne, ne_eq] at hoi
    exact sim_newq hx hb hown hK hz ho3 ho4 ho5 ⟨fun q => hoi.1.1.elim (fun z => absurd q z) (fun z => hts _ (am_hs_in z)), fun q => hoi.1.2.elim (fun z => absurd q z) (fun z => hts _ (am_hs_in z)), fun q => hoi.2.elim (fun z => absurd q z) (fun z => hts _ (am_hs_in z))⟩ hdg hrc hrs hs Rl go
  | invokestatic idx =>
    have hr1 : r1 = 900 ∨ r1 = 902 ∨ r1 = 903 := by
      by_cases q : r1 = 900 ∨ r1 = 902 ∨ r1 = 903
      · exact q
      · simp only [am_kind, if_neg q] at hk; cases hk
    rcases hr1 with rfl | rfl | rfl
    · simp only [am_okI, if_true, Bool.and_eq_true] at hoi
      delta am_step at hs
      dsimp only at hs
      rw [if_neg (by decide), if_neg (by decide)] at hs
      exact sim_copy hx hb hml hown hK hO hstr hdg (hts _ (am_hs_in hoi.1.1.1)) (hts _ (am_hs_in hoi.1.1.2)) (hts _ (am_hs_in hoi.1.2)) (hts _ (am_hs_in hoi.2)) (by omega) (Nat.le_trans (by decide +kernel : 8 + (nativeFrameWords "java/lang/System" "arraycopy" 5 + 11) ≤ 35) (by omega)) hs Rl go
    · simp only [am_okI, show ¬ (902 : Nat) = 900 by decide, if_false, if_true, Bool.and_eq_true] at hoi
      have hsz : c.maxLocals = ls1.size := by rw [hml]; exact Rl.2.1.1.symm
      exact sim_m2 (fun q kk => va_mmax hx hb hsz hown (hts _ (am_hs_in hoi.1.1.1)) (hts _ (am_hs_in hoi.1.1.2)) (hts _ (am_hs_in hoi.1.2)) (hts _ (am_hs_in hoi.2)) (by omega) (by omega) (by omega) (by omega) hdg kk) hs Rl go
    · simp only [am_okI, show ¬ (903 : Nat) = 900 by decide, show ¬ (903 : Nat) = 902 by decide, if_false, if_true, Bool.and_eq_true] at hoi
      have hsz : c.maxLocals = ls1.size := by rw [hml]; exact Rl.2.1.1.symm
      exact sim_m2 (fun q kk => va_mmin hx hb hsz hown (hts _ (am_hs_in hoi.1.1.1)) (hts _ (am_hs_in hoi.1.1.2)) (hts _ (am_hs_in hoi.1.2)) (hts _ (am_hs_in hoi.2)) (by omega) (by omega) (by omega) (by omega) hdg kk) hs Rl go
  | invokespecial idx =>
    have hr1 : r1 = 901 := by
      by_cases q : r1 = 901
      · exact q
      · simp only [am_kind, if_neg q] at hk; cases hk
    simp only [am_okI, if_pos hr1, Bool.and_eq_true] at hoi
    exact sim_obj hx hb hml hown hdg (hts _ (am_hs_in hoi.1.1)) (hts _ (am_hs_in hoi.1.2)) (hts _ (am_hs_in hoi.2)) (by omega) (by omega) hs Rl go
  | _ => cases hs
end AMS2
