/-! ===== the simulation: instructions that read and write cells ===== -/
def am_T : List Jvm.Cond := lw_tbl.filter goodWord
theorem am_T_in {w : Jvm.Cond} (h1 : w ∈ lw_tbl) (h2 : goodWord w = true) : w ∈ am_T := List.mem_filter.mpr ⟨h1, h2⟩
theorem am_T_good {w : Jvm.Cond} (h : w ∈ am_T) : goodWord w = true := (List.mem_filter.mp h).2
theorem am_g0 : ∀ w ∈ u_ws "PebbleProofs$Board" am_T0 9, goodWord w = true := by decide +kernel
theorem am_g1 : ∀ w ∈ u_ws "PebbleProofs$FailingPiles" am_T1 12, goodWord w = true := by decide +kernel
theorem am_g2 : ∀ w ∈ u_ws "PebbleProofs$History" am_T2 3, goodWord w = true := by decide +kernel
theorem am_g3 : ∀ w ∈ u_ws "PebbleProofs$Outlook" am_T3 9, goodWord w = true := by decide +kernel
theorem am_g4 : ∀ w ∈ u_ws "PebbleProofs$SetupText" am_T4 7, goodWord w = true := by decide +kernel
theorem am_g5 : ∀ w ∈ u_ws "PebbleProofs" am_T5 9, goodWord w = true := by decide +kernel
theorem am_g6 : ∀ w ∈ u_ws "PebbleProofsLaw$Why" am_T6 1, goodWord w = true := by decide +kernel
theorem am_g7 : ∀ w ∈ u_ws "PebbleProofsLaw$Yard" am_T7 8, goodWord w = true := by decide +kernel
theorem am_g8 : ∀ w ∈ u_ws "java/lang/String" am_T8 4, goodWord w = true := by decide +kernel
theorem am_g9 : ∀ w ∈ u_ws "java/lang/StringBuilder" am_T9 4, goodWord w = true := by decide +kernel
theorem am_g10 : ∀ w ∈ u_ws "java/util/ArrayList" am_T10 3, goodWord w = true := by decide +kernel
theorem am_g11 : ∀ w ∈ u_ws "java/util/ArrayList$Itr" am_T11 4, goodWord w = true := by decide +kernel
theorem am_cl_lt {ci : Nat} {q : vw_C} (h : am_cl[ci]? = some q) : ci < 12 := (List.getElem?_eq_some_iff.mp h).1
theorem am_ws_in {ci : Nat} {C : String} {T : u_T} {N : Nat} (h : am_cl[ci]? = some (C, T, N)) : ∀ w ∈ u_ws C T N, w ∈ am_T := by
  have h7 := am_cl_lt h
  match ci, h7, h with
  | 0, _, h => cases h; exact fun w hw => am_T_in (am_w0 w hw) (am_g0 w hw)
  | 1, _, h => cases h; exact fun w hw => am_T_in (am_w1 w hw) (am_g1 w hw)
  | 2, _, h => cases h; exact fun w hw => am_T_in (am_w2 w hw) (am_g2 w hw)
  | 3, _, h => cases h; exact fun w hw => am_T_in (am_w3 w hw) (am_g3 w hw)
  | 4, _, h => cases h; exact fun w hw => am_T_in (am_w4 w hw) (am_g4 w hw)
  | 5, _, h => cases h; exact fun w hw => am_T_in (am_w5 w hw) (am_g5 w hw)
  | 6, _, h => cases h; exact fun w hw => am_T_in (am_w6 w hw) (am_g6 w hw)
  | 7, _, h => cases h; exact fun w hw => am_T_in (am_w7 w hw) (am_g7 w hw)
  | 8, _, h => cases h; exact fun w hw => am_T_in (am_w8 w hw) (am_g8 w hw)
  | 9, _, h => cases h; exact fun w hw => am_T_in (am_w9 w hw) (am_g9 w hw)
  | 10, _, h => cases h; exact fun w hw => am_T_in (am_w10 w hw) (am_g10 w hw)
  | 11, _, h => cases h; exact fun w hw => am_T_in (am_w11 w hw) (am_g11 w hw)
theorem am_ty_ok {ci : Nat} {C : String} {T : u_T} {N : Nat} (h : am_cl[ci]? = some (C, T, N)) : ∀ k, k < N → parseFieldDescriptor (T k).2.2.1 = some (am_ft ci k) := by
  have h7 := am_cl_lt h
  match ci, h7, h with
  | 0, _, h => cases h; exact am_t0_ok
  | 1, _, h => cases h; exact am_t1_ok
  | 2, _, h => cases h; exact am_t2_ok
  | 3, _, h => cases h; exact am_t3_ok
  | 4, _, h => cases h; exact am_t4_ok
  | 5, _, h => cases h; exact am_t5_ok
  | 6, _, h => cases h; exact am_t6_ok
  | 7, _, h => cases h; exact am_t7_ok
  | 8, _, h => cases h; exact am_t8_ok
  | 9, _, h => cases h; exact am_t9_ok
  | 10, _, h => cases h; exact am_t10_ok
  | 11, _, h => cases h; exact am_t11_ok
theorem am_nm_ok {ci : Nat} {C : String} {T : u_T} {N : Nat} (h : am_cl[ci]? = some (C, T, N)) : ∀ a, a < N → ∀ b, b < N → a ≠ b → (T a).2.1 ≠ (T b).2.1 := by
  have h7 := am_cl_lt h
  match ci, h7, h with
  | 0, _, h => cases h; exact am_n0
  | 1, _, h => cases h; exact am_n1
  | 2, _, h => cases h; exact am_n2
  | 3, _, h => cases h; exact am_n3
  | 4, _, h => cases h; exact am_n4
  | 5, _, h => cases h; exact am_n5
  | 6, _, h => cases h; exact am_n6
  | 7, _, h => cases h; exact am_n7
  | 8, _, h => cases h; exact am_n8
  | 9, _, h => cases h; exact am_n9
  | 10, _, h => cases h; exact am_n10
  | 11, _, h => cases h; exact am_n11
theorem am_cn_ok {ci : Nat} {C : String} {T : u_T} {N : Nat} (h : am_cl[ci]? = some (C, T, N)) : am_cn ci = C := by
  have h7 := am_cl_lt h
  match ci, h7, h with
  | 0, _, h => cases h; rfl
  | 1, _, h => cases h; rfl
  | 2, _, h => cases h; rfl
  | 3, _, h => cases h; rfl
  | 4, _, h => cases h; rfl
  | 5, _, h => cases h; rfl
  | 6, _, h => cases h; rfl
  | 7, _, h => cases h; rfl
  | 8, _, h => cases h; rfl
  | 9, _, h => cases h; rfl
  | 10, _, h => cases h; rfl
  | 11, _, h => cases h; rfl
theorem am_fd_all : ∀ ci, ci < 12 → ∀ q, am_cl[ci]? = some q → (am_fd ci).length = q.2.2 ∧ ∀ j, j < q.2.2 → defaultValue (am_ft ci j) = vp_V (am_fd ci) j := by
  intro ci h7 q h
  match ci, h7, h with
  | 0, _, h => cases h; exact ⟨rfl, by decide +kernel⟩
  | 1, _, h => cases h; exact ⟨rfl, by decide +kernel⟩
  | 2, _, h => cases h; exact ⟨rfl, by decide +kernel⟩
  | 3, _, h => cases h; exact ⟨rfl, by decide +kernel⟩
  | 4, _, h => cases h; exact ⟨rfl, by decide +kernel⟩
  | 5, _, h => cases h; exact ⟨rfl, by decide +kernel⟩
  | 6, _, h => cases h; exact ⟨rfl, by decide +kernel⟩
  | 7, _, h => cases h; exact ⟨rfl, by decide +kernel⟩
  | 8, _, h => cases h; exact ⟨rfl, by decide +kernel⟩
  | 9, _, h => cases h; exact ⟨rfl, by decide +kernel⟩
  | 10, _, h => cases h; exact ⟨rfl, by decide +kernel⟩
  | 11, _, h => cases h; exact ⟨rfl, by decide +kernel⟩
/-- a new object's fields are related to themselves -/
theorem am_fd_rs (X : Nat → Value → Prop) (as : List Nat) : ∀ ci, ci < 12 → am_RS X as (am_fd ci) (am_fd ci) := by
  intro ci h7
  have key : ∀ vs : List Value, (∀ v ∈ vs, (v = .int 0 ∨ v = .long 0 ∨ v = .null)) → am_RS X as vs vs := by
    intro vs
    induction vs with
    | nil => intro _; trivial
    | cons v r ih =>
      intro hv
      refine ⟨?_, ih (fun u hu => hv u (List.mem_cons_of_mem _ hu))⟩
      rcases hv v List.mem_cons_self with rfl | rfl | rfl <;> rfl
  refine key _ ?_
  match ci, h7 with
  | 0, _ => decide +kernel
  | 1, _ => decide +kernel
  | 2, _ => decide +kernel
  | 3, _ => decide +kernel
  | 4, _ => decide +kernel
  | 5, _ => decide +kernel
  | 6, _ => decide +kernel
  | 7, _ => decide +kernel
  | 8, _ => decide +kernel
  | 9, _ => decide +kernel
  | 10, _ => decide +kernel
  | 11, _ => decide +kernel
theorem am_P_cl {D : va_G} {ws : va_W} {H : Heap} (hP : va_P D am_cl ws H) {i a ci : Nat} {gs : List Value} (h : ws[i]? = some (a, .inr (ci, gs))) : ∃ q, am_cl[ci]? = some q := by
  obtain ⟨r, h1, -⟩ := hP i _ h
  exact ⟨r, h1⟩
theorem am_ra_eq {U : State} {a b : ClassId} {ty : FieldType} (h1 : va_RA U a ty) (h2 : va_RA U b ty) : a = b := by
  cases ty with
  | object C =>
    obtain ⟨_, _, _, _, _, q1⟩ := h1
    obtain ⟨_, _, _, _, _, q2⟩ := h2
    rw [q1] at q2
    exact Option.some.inj q2
  | _ =>
    have q1 : U.vm.findClass _ = some a := h1
    have q2 : U.vm.findClass _ = some b := h2
    rw [q1] at q2
    exact Option.some.inj q2
theorem am_tys_at {G : Nat → ClassId} {t : Nat} (h : t < 8) : (am_tys G)[t]? = some (G t, am_el t) := by
  match t, h with
  | 0, _ => rfl
  | 1, _ => rfl
  | 2, _ => rfl
  | 3, _ => rfl
  | 4, _ => rfl
  | 5, _ => rfl
  | 6, _ => rfl
  | 7, _ => rfl
theorem am_RC_obj {X : Nat → Value → Prop} {G : Nat → ClassId} {as : List Nat} {ci : Nat} {fs gs : List Value} (h : am_RS X as fs gs) : am_RC X G as (.inr (ci, fs)) (.inr (ci, gs)) := ⟨rfl, h⟩
theorem am_RC_arr {X : Nat → Value → Prop} {G : Nat → ClassId} {as : List Nat} {t n : Nat} {a b : AVc} (ht : t < 8) (h : am_RA as a b) : am_RC X G as (.inl (t, n, a)) (.inl (G t, n, b)) := ⟨rfl, rfl, ht, h⟩
section AMH
variable {p : Program} {l : Launch} {e : Env} {R : Room} {s : State} {m : MethodId} {args : Array Value} {below : List Frame} {meth : Method} {c : Code} {Q : State → Prop} {k : AK} {X : Nat → Value → Prop} {nL : Nat} {as0 as : List Nat} {ws : va_W} {ls : ALs} {st : List Value} {h : AHp} {ls1 : Array Slot} {st1 : List Value} {H : Heap} {locs : List Loc} {cells slots pc : Nat} {S : ASt} {cc : ByteArray} {own : String}
theorem am_newK {cA : ClassId} {ty : FieldType} {t : Nat} (ht : t < 8) (hty : am_el t = ty) (h : va_K k.2.1 am_cl (am_tys k.2.2.1 ++ [(cA, ty)]) s) (hK : va_K k.2.1 am_cl (am_tys k.2.2.1) s) : cA = k.2.2.1 t := by
  have h1 := (h.2 8 (cA, ty) rfl).2
  have h2 := (hK.2 t (k.2.2.1 t, am_el t) (am_tys_at ht)).2
  rw [hty] at h2
  exact am_ra_eq h1 h2
theorem am_fits {ty : FieldType} {v w : Value} (hX : am_Xref X) (hv : am_RV X as v w) (hne : ¬ v = .ref (am_SB + 1)) (hf : fits ty v = true) (hn : narrow ty v = v) : fits ty w = true ∧ narrow ty w = w := by
  cases v with
  | ref i =>
    obtain ⟨a, rfl⟩ := am_RV_isref hX (fun q => hne (by rw [q])) hv
    cases ty <;> first | exact ⟨hf, rfl⟩ | cases hf
  | int x => cases hv; exact ⟨hf, hn⟩
  | long x => cases hv; exact ⟨hf, hn⟩
  | null => cases hv; exact ⟨hf, hn⟩
  | float x => exact False.elim hv
  | double x => exact False.elim hv
  | retAddr x => exact False.elim hv
theorem sim_new (hx : p.tables.exec = Jvm.exec) (hb : c.code = cc) (hts : ∀ w ∈ am_T, w.before args s = true) (hown : s.vm.findClass own = some m.cls) (hK : va_K k.2.1 am_cl (am_tys k.2.2.1) s) (hz : k.1 ≤ s.heap.size) {idx r1 N : Nat} {C : String} {T : u_T} (hc : am_cl[r1]? = some (C, T, N)) (hdg : decode cc pc = .ok (.new idx, 3)) (hcl : Jvm.Cond.classLink own idx C ∈ am_T) (hin : Jvm.Cond.instantiable C N ∈ am_T) (hini : Jvm.Cond.initialized C ∈ am_T)
    (hrc : cells + S.2.2.2.2.1 ≤ R.cells) (hrs : slots + S.2.2.2.2.2 ≤ R.slots) (hs : am_new pc r1 ls st h = some S) (Rl : am_Rel k X nL s as0 as ws ls st h ls1 st1 H locs) (go : am_Go p l e R s m args below meth c Q k X nL as0 S cells slots) : W p l e R s m args below meth c H locs cells slots Q (F0 m pc ls1 st1) := by
  unfold am_new at hs
  split at hs
  · next hlen9 =>
    have hlen := hlen9.1
    cases hs
    obtain ⟨⟨t, ht⟩, hl, hst, hw, hP, hD, hS⟩ := Rl
    obtain ⟨hfl, hfd⟩ := am_fd_all r1 (am_cl_lt hc) _ hc
    dsimp only at hrc hrs go hfl
    refine va_new (ci := r1) (fs := am_fd r1) (A := am_A k) (C := C) (T := T) (N := N) hx hb hts (am_ws_in hc) (am_ft r1) (am_ty_ok hc) hown (hts _ hcl) (hts _ hin) (hts _ hini) hK hP hD hS (fun q hq => Nat.le_trans hz hq) hc (fun j hj => hfd j hj) hrc (by rw [hfl] at hrs; exact hrs) hdg (fun q H1 hP1 hD1 hS1 => ?_)
    have hn : as[h.length]? = none := List.getElem?_eq_none (by rw [hw.1]; exact Nat.le_refl _)
    have g := go (as ++ [q]) (ws ++ [(q, .inr (r1, am_fd r1))]) ls1 (.ref q :: st1) H1 locs ⟨⟨t ++ [q], by rw [ht, List.append_assoc]⟩, am_RL_app hl, ⟨am_RV_mk hlen (by rw [List.getElem?_append_right (by rw [hw.1]; exact Nat.le_refl _), hw.1, Nat.sub_self]; rfl), am_RS_app hst⟩, am_RW_push hw hlen (am_RC_obj (am_fd_rs X as r1 (am_cl_lt hc))), hP1, hD1, hS1⟩
    dsimp only at g
    rw [hfl] at g
    exact g
  · cases hs
theorem sim_newa (hx : p.tables.exec = Jvm.exec) (hb : c.code = cc) (hK : va_K k.2.1 am_cl (am_tys k.2.2.1) s) (hz : k.1 ≤ s.heap.size) (h0 : (Jvm.Cond.arrayClass .int).before args s = true) (h1 : (Jvm.Cond.arrayClass .boolean).before args s = true) (h2 : (Jvm.Cond.arrayClass .byte).before args s = true) {ty : ArrayType} (hdg : decode cc pc = .ok (.newarray ty, 2))
    (hrc : cells + S.2.2.2.2.1 ≤ R.cells) (hrs : slots + S.2.2.2.2.2 ≤ R.slots) (hs : am_newa ty pc ls st h = some S) (Rl : am_Rel k X nL s as0 as ws ls st h ls1 st1 H locs) (go : am_Go p l e R s m args below meth c Q k X nL as0 S cells slots) : W p l e R s m args below meth c H locs cells slots Q (F0 m pc ls1 st1) := by
  unfold am_newa at hs
  split at hs
  · next n r =>
    split at hs
    · next hc =>
      obtain ⟨hlen, hn0, hn1⟩ := hc
      obtain ⟨⟨t, ht⟩, hl, hst, hw, hP, hD, hS⟩ := Rl
      obtain ⟨r', rfl, hst'⟩ := am_RS_int hst
      have hneg : ¬ n < 0 := by
        rw [Int32.lt_iff_toInt_lt]
        have : (0 : Int32).toInt = 0 := rfl
        omega
      have hcl : n.toNatClampNeg = n.toInt.toNat := rfl
      have hlt : n.toNatClampNeg < 1000000 := by rw [hcl]; omega
      have hA : ∀ q, s.heap.size ≤ q → am_A k q := fun q hq => Nat.le_trans hz hq
      have hnew : ∀ q : Nat, (as ++ [q])[h.length]? = some q := fun q => by rw [List.getElem?_append_right (by rw [hw.1]; exact Nat.le_refl _), hw.1, Nat.sub_self]; rfl
      split at hs
      · cases hs
        refine va_newa (a0 := (n.toNatClampNeg, .inl (fun _ => 0))) (atype := .int) (ty := .int) (A := am_A k) hx hb h0 rfl hK hP hD hS hA (fun cA => rfl) hneg rfl (by show n.toNatClampNeg * 4 ≤ 536870912; omega) hrc hrs hdg (fun q cA H1 hK1 hP1 hD1 hS1 => ?_)
        have hcA := am_newK (t := 0) (by decide) rfl hK1 hK
        subst hcA
        exact go (as ++ [q]) _ ls1 (.ref q :: r') H1 locs ⟨⟨t ++ [q], by rw [ht, List.append_assoc]⟩, am_RL_app hl, ⟨am_RV_mk hlen (hnew q), am_RS_app hst'⟩, am_RW_push hw hlen (am_RC_arr (b := .inl (fun _ => 0)) (by decide) rfl), hP1, hD1, hS1⟩
      · cases hs
        refine va_newa (a0 := (n.toNatClampNeg, .inl (fun _ => 0))) (atype := .boolean) (ty := .boolean) (A := am_A k) hx hb h1 rfl hK hP hD hS hA (fun cA => rfl) hneg rfl (by show n.toNatClampNeg * 1 ≤ 536870912; omega) hrc hrs hdg (fun q cA H1 hK1 hP1 hD1 hS1 => ?_)
        have hcA := am_newK (t := 1) (by decide) rfl hK1 hK
        subst hcA
        exact go (as ++ [q]) _ ls1 (.ref q :: r') H1 locs ⟨⟨t ++ [q], by rw [ht, List.append_assoc]⟩, am_RL_app hl, ⟨am_RV_mk hlen (hnew q), am_RS_app hst'⟩, am_RW_push hw hlen (am_RC_arr (b := .inl (fun _ => 0)) (by decide) rfl), hP1, hD1, hS1⟩
      · cases hs
        refine va_newa (a0 := (n.toNatClampNeg, .inl (fun _ => 0))) (atype := .byte) (ty := .byte) (A := am_A k) hx hb h2 rfl hK hP hD hS hA (fun cA => rfl) hneg rfl (by show n.toNatClampNeg * 1 ≤ 536870912; omega) hrc hrs hdg (fun q cA H1 hK1 hP1 hD1 hS1 => ?_)
        have hcA := am_newK (t := 2) (by decide) rfl hK1 hK
        subst hcA
        exact go (as ++ [q]) _ ls1 (.ref q :: r') H1 locs ⟨⟨t ++ [q], by rw [ht, List.append_assoc]⟩, am_RL_app hl, ⟨am_RV_mk hlen (hnew q), am_RS_app hst'⟩, am_RW_push hw hlen (am_RC_arr (b := .inl (fun _ => 0)) (by decide) rfl), hP1, hD1, hS1⟩
      · cases hs
    · cases hs
  · cases hs
theorem sim_newq (hx : p.tables.exec = Jvm.exec) (hb : c.code = cc) (hown : s.vm.findClass own = some m.cls) (hK : va_K k.2.1 am_cl (am_tys k.2.2.1) s) (hz : k.1 ≤ s.heap.size) (h3 : va_AO "PebbleProofs$Board" s) (h4 : va_AO "PebbleProofs$FailingPiles" s) (h5 : va_AO "java/lang/Object" s) {idx r1 : Nat} (hcl : (r1 = 3 → (Jvm.Cond.classLink own idx "PebbleProofs$Board").before args s = true) ∧ (r1 = 4 → (Jvm.Cond.classLink own idx "PebbleProofs$FailingPiles").before args s = true) ∧ (r1 = 5 → (Jvm.Cond.classLink own idx "java/lang/Object").before args s = true)) (hdg : decode cc pc = .ok (.anewarray idx, 3))
    (hrc : cells + S.2.2.2.2.1 ≤ R.cells) (hrs : slots + S.2.2.2.2.2 ≤ R.slots) (hs : am_newq pc r1 ls st h = some S) (Rl : am_Rel k X nL s as0 as ws ls st h ls1 st1 H locs) (go : am_Go p l e R s m args below meth c Q k X nL as0 S cells slots) : W p l e R s m args below meth c H locs cells slots Q (F0 m pc ls1 st1) := by
  unfold am_newq at hs
  split at hs
  · next n r =>
    split at hs
    · next hc =>
      obtain ⟨hlen, hn0, hn1, hr⟩ := hc
      obtain ⟨⟨t, ht⟩, hl, hst, hw, hP, hD, hS⟩ := Rl
      obtain ⟨r', rfl, hst'⟩ := am_RS_int hst
      have hneg : ¬ n < 0 := by
        rw [Int32.lt_iff_toInt_lt]
        have : (0 : Int32).toInt = 0 := rfl
        omega
      have hc0 : n.toNatClampNeg = n.toInt.toNat := rfl
      have hlt : n.toNatClampNeg < 1000000 := by rw [hc0]; omega
      have hA : ∀ q, s.heap.size ≤ q → am_A k q := fun q hq => Nat.le_trans hz hq
      have hnew : ∀ q : Nat, (as ++ [q])[h.length]? = some q := fun q => by rw [List.getElem?_append_right (by rw [hw.1]; exact Nat.le_refl _), hw.1, Nat.sub_self]; rfl
      cases hs
      rcases hr with rfl | rfl | rfl
      · refine va_newq (C := "PebbleProofs$Board") (A := am_A k) hx hb hown (hcl.1 rfl) h3 hK hP hD hS hA hneg rfl (by omega) hrc hrs hdg (fun q cA H1 hK1 hP1 hD1 hS1 => ?_)
        have hcA := am_newK (t := 3) (by decide) rfl hK1 hK
        subst hcA
        exact go (as ++ [q]) _ ls1 (.ref q :: r') H1 locs ⟨⟨t ++ [q], by rw [ht, List.append_assoc]⟩, am_RL_app hl, ⟨am_RV_mk hlen (hnew q), am_RS_app hst'⟩, am_RW_push hw hlen (am_RC_arr (b := .inr (.inr (.inr (.inr (fun _ => none))))) (by decide) (fun j => ⟨fun _ => rfl, fun i q => by cases q⟩)), hP1, hD1, hS1⟩
      · refine va_newq (C := "PebbleProofs$FailingPiles") (A := am_A k) hx hb hown (hcl.2.1 rfl) h4 hK hP hD hS hA hneg rfl (by omega) hrc hrs hdg (fun q cA H1 hK1 hP1 hD1 hS1 => ?_)
        have hcA := am_newK (t := 4) (by decide) rfl hK1 hK
        subst hcA
        exact go (as ++ [q]) _ ls1 (.ref q :: r') H1 locs ⟨⟨t ++ [q], by rw [ht, List.append_assoc]⟩, am_RL_app hl, ⟨am_RV_mk hlen (hnew q), am_RS_app hst'⟩, am_RW_push hw hlen (am_RC_arr (b := .inr (.inr (.inr (.inr (fun _ => none))))) (by decide) (fun j => ⟨fun _ => rfl, fun i q => by cases q⟩)), hP1, hD1, hS1⟩
      · refine va_newq (C := "java/lang/Object") (A := am_A k) hx hb hown (hcl.2.2 rfl) h5 hK hP hD hS hA hneg rfl (by omega) hrc hrs hdg (fun q cA H1 hK1 hP1 hD1 hS1 => ?_)
        have hcA := am_newK (t := 5) (by decide) rfl hK1 hK
        subst hcA
        exact go (as ++ [q]) _ ls1 (.ref q :: r') H1 locs ⟨⟨t ++ [q], by rw [ht, List.append_assoc]⟩, am_RL_app hl, ⟨am_RV_mk hlen (hnew q), am_RS_app hst'⟩, am_RW_push hw hlen (am_RC_arr (b := .inr (.inr (.inr (.inr (fun _ => none))))) (by decide) (fun j => ⟨fun _ => rfl, fun i q => by cases q⟩)), hP1, hD1, hS1⟩
    · cases hs
  · cases hs
end AMH
