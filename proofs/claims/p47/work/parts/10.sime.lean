/-! ===== the simulation: throws ===== -/
theorem am_find_pc : ∀ {L : List AEn} {pc : Nat} {E : AEn}, am_find L pc = some E → E.1 = pc
  | [], _, _, h => by cases h
  | q :: L, pc, E, h => by
    unfold am_find at h
    split at h
    · next hq => cases h; exact hq
    · exact am_find_pc h
def am_xw (w : Jvm.Cond) : Bool := decide (w ∈ lw_tbl) && (goodWord w || am_isn w) && vx_ot w
theorem am_at0 : ∀ w ∈ vx_atS "PebbleProofs" (am_ic 0) (am_exn 0) am_xn, am_xw w = true := by decide +kernel
theorem am_at1 : ∀ w ∈ vx_atS "PebbleProofs" (am_ic 1) (am_exn 1) am_xn, am_xw w = true := by decide +kernel
theorem am_at2 : ∀ w ∈ vx_atS "PebbleProofs" (am_ic 2) (am_exn 2) am_xn, am_xw w = true := by decide +kernel
theorem am_ot (i : Nat) (hi : i < 3) (own : String) (ik : Nat) : vx_ot (Jvm.Cond.classLink own ik (am_exn i)) = true ∧ vx_ot (Jvm.Cond.initialized (am_exn i)) = true := ⟨rfl, rfl⟩
theorem am_isn_tab {w : Jvm.Cond} (h : am_isn w = true) : w.onTables = true := by
  cases w <;> first | rfl | cases h
section AMT
variable {p : Program} {l : Launch} {e : Env} {R : Room} {s : State} {m : MethodId} {args : Array Value} {below : List Frame} {meth : Method} {c : Code} {Q : State → Prop} {k : AK} {b nL : Nat} {as0 as : List Nat} {ws : va_W} {ls : ALs} {st : List Value} {h : AHp} {ls1 : Array Slot} {st1 : List Value} {H : Heap} {locs : List Loc} {cells slots pc : Nat} {S : ASt} {cc : ByteArray} {own nm : String} {scr : ASc}
theorem am_throw_ok {i : Nat} (hts : ∀ w ∈ am_T, w.before args s = true) (hWd : am_Wd k b scr s) (h : ∀ w ∈ vx_atS "PebbleProofs" (am_ic i) (am_exn i) am_xn, am_xw w = true) : (∀ w ∈ vx_atS "PebbleProofs" (am_ic i) (am_exn i) am_xn, w.before args s = true) ∧ ∀ w ∈ vx_atS "PebbleProofs" (am_ic i) (am_exn i) am_xn, vx_ot w = true := by
  refine ⟨fun w hw => ?_, fun w hw => ?_⟩
  · have h1 := h w hw
    simp only [am_xw, Bool.and_eq_true, Bool.or_eq_true, decide_eq_true_eq] at h1
    rcases h1.1.2 with q | q
    · exact hts w (am_T_in h1.1.1 q)
    · exact va_Nw.use (am_isn_tab q) (hWd.2.2.2.2.2.2.2.2.2.2.1 w h1.1.1 q)
  · have h1 := h w hw
    simp only [am_xw, Bool.and_eq_true] at h1
    exact h1.2
theorem sim_throw {d : Nat} {E : AEn} {J : List (Nat × Nat)} {res : ARe} (C : am_Cx p l R s m args meth c k b nL cc own nm scr d) (hk : am_kind E.2.1 E.2.2.1 = 3) (hok : am_okE own nm cc E J = true) (h7 : 7 ≤ d) (h5 : E.2.2.2 < 3) (hsum : (st.map Value.category).sum ≤ 8) (hout : ∀ x ∈ c.exceptionTable.toList, False)
    (hres : res = (.inr E.2.2.2, h, cells + 1, slots + 6)) (hrc : cells + 1 ≤ R.cells) (hrs : slots + 6 ≤ R.slots) (Rl : am_Rel k (am_X k b) nL s as0 as ws ls st h ls1 st1 H locs) :
    W p l e R s m args below meth c H locs cells slots (vx_MQ below (am_Qr k b as0 res) (am_Xr k b as0 res) args s res.2.2.1 res.2.2.2 (am_A k)) (F0 m E.1 ls1 st1) := by
  obtain ⟨pc, i, r1, r2⟩ := E
  obtain ⟨hx, hb, hml, hown, hts, hlocks, hnm, hWd, hd1, hd2, hd3, hlt⟩ := C
  obtain ⟨t, hl, hst, hw, hP, hD, hS⟩ := Rl
  simp only [am_okE, Bool.and_eq_true] at hok
  obtain ⟨hdc, hoi⟩ := hok
  have hdg := am_dec_ok hdc
  dsimp only at hdg hoi hk h5 hres ⊢
  cases i with
  | new idx =>
    have hr1 : r1 = 1000 := by
      by_cases q : r1 = 1000
      · exact q
      · simp only [am_kind, if_neg q] at hk; cases hk
    simp only [am_okI, if_pos hr1, am_okT, Bool.and_eq_true] at hoi
    obtain ⟨⟨⟨o1, o2⟩, o3⟩, o4⟩ := hoi
    have d3 := am_dec_ok o3
    have hsz : ls1.size = c.maxLocals := by rw [hml]; exact hl.1
    have hs8 : (st1.map fun v => v.category).sum ≤ 8 := by rw [am_RS_cat (am_X_ok k b) hst]; exact hsum
    have hxx : ∀ u : State, s.vm.Alike u.vm → H.size ≤ u.heap.size → (∀ q : Nat, q < H.size → u.heap[q]? = H[q]?) → am_Xr k b as0 res (am_exn r2) s u := by
      intro u _ h1 h2
      rw [hres]
      exact ⟨rfl, ⟨as, ws, t, hw, va_P.kept hP (fun kk q hq => h2 q.1 (hP kk q hq).lt), hD⟩, Nat.le_trans hS.1 h1, fun q q1 q2 => by rw [h2 q (Nat.lt_of_lt_of_le q1 hS.1)]; exact hS.2.1 q q1 q2⟩
    have hc1 : cells + 1 ≤ res.2.2.1 := by rw [hres]; exact Nat.le_refl _
    have hc2 : slots + 6 ≤ res.2.2.2 := by rw [hres]; exact Nat.le_refl _
    have hol : ∀ z ∈ locs, am_A k z.base := hS.2.2
    split at o4
    · next is o1x ix tx hd4 hwd =>
      simp only [Bool.and_eq_true, decide_eq_true_eq, beq_iff_eq] at o4
      obtain ⟨⟨⟨rfl, rfl⟩, o5⟩, o6⟩ := o4
      split at o6
      · next ic hd6 =>
        simp only [Bool.and_eq_true, decide_eq_true_eq, beq_iff_eq] at o6
        obtain ⟨hpp, rfl⟩ := o6
        subst hpp
        obtain ⟨sa, hsa⟩ := hWd.2.2.2.2.2.2.2.2.2.2.2.1 _ _ _ (am_wd_in hwd)
        have go : ∀ i, i = r2 → (∀ w ∈ vx_atS "PebbleProofs" (am_ic i) (am_exn i) am_xn, am_xw w = true) → Bundle.fit (am_exn i) = true → W p l e R s m args below meth c H locs cells slots (vx_MQ below (am_Qr k b as0 res) (am_Xr k b as0 res) args s res.2.2.1 res.2.2.2 (am_A k)) (F0 m pc ls1 st1) := by
          intro i hi hat hfit
          subst hi
          obtain ⟨a1, a2⟩ := am_throw_ok (i := i) hts hWd hat
          refine vx_throwS (A := am_A k) (names := am_xn) hx hb hlt hown hfit (by decide +kernel) (hts _ (am_hs_in o1)) (hts _ (am_hs_in o2)) hsa a1 (fun w hw => ?_) hWd.2.2.2.2.2.2.1 hWd.2.2.2.2.2.2.2.1 hS hsz hdg d3 hd4 hd6 (am_dec_ok o5) (fun x hx => (hout x hx).elim) (by show 2 + 3 < R.frames; omega) (by show (st1.map fun v => v.category).sum + (13 * 3 + 43) ≤ R.locals; omega) hrc hrs hlocks hxx hol hc1 hc2
          rcases List.mem_cons.mp hw with q | q
          · rw [q]; rfl
          · rcases List.mem_cons.mp q with q | q
            · rw [q]; rfl
            · exact a2 w q
        match r2, h5 with
        | 0, _ => exact go 0 rfl am_at0 (by decide +kernel)
        | 1, _ => exact go 1 rfl am_at1 (by decide +kernel)
        | 2, _ => exact go 2 rfl am_at2 (by decide +kernel)
      · cases o6
    · next is o1x ix tx hd4 hwd =>
      simp only [Bool.and_eq_true, decide_eq_true_eq, beq_iff_eq] at o4
      obtain ⟨⟨⟨rfl, rfl⟩, o5⟩, o6⟩ := o4
      split at o6
      · next ic hd6 =>
        simp only [Bool.and_eq_true, decide_eq_true_eq, beq_iff_eq] at o6
        obtain ⟨hpp, rfl⟩ := o6
        subst hpp
        obtain ⟨sa, hsa⟩ := hWd.2.2.2.2.2.2.2.2.2.2.2.1 _ _ _ (am_wd_in hwd)
        have go : ∀ i, i = r2 → (∀ w ∈ vx_atS "PebbleProofs" (am_ic i) (am_exn i) am_xn, am_xw w = true) → Bundle.fit (am_exn i) = true → W p l e R s m args below meth c H locs cells slots (vx_MQ below (am_Qr k b as0 res) (am_Xr k b as0 res) args s res.2.2.1 res.2.2.2 (am_A k)) (F0 m pc ls1 st1) := by
          intro i hi hat hfit
          subst hi
          obtain ⟨a1, a2⟩ := am_throw_ok (i := i) hts hWd hat
          refine vx_throwSW (A := am_A k) (names := am_xn) hx hb hlt hown hfit (by decide +kernel) (hts _ (am_hs_in o1)) (hts _ (am_hs_in o2)) hsa a1 (fun w hw => ?_) hWd.2.2.2.2.2.2.1 hWd.2.2.2.2.2.2.2.1 hS hsz hdg d3 hd4 hd6 (am_dec_ok o5) (fun x hx => (hout x hx).elim) (by show 2 + 3 < R.frames; omega) (by show (st1.map fun v => v.category).sum + (13 * 3 + 43) ≤ R.locals; omega) hrc hrs hlocks hxx hol hc1 hc2
          rcases List.mem_cons.mp hw with q | q
          · rw [q]; rfl
          · rcases List.mem_cons.mp q with q | q
            · rw [q]; rfl
            · exact a2 w q
        match r2, h5 with
        | 0, _ => exact go 0 rfl am_at0 (by decide +kernel)
        | 1, _ => exact go 1 rfl am_at1 (by decide +kernel)
        | 2, _ => exact go 2 rfl am_at2 (by decide +kernel)
      · cases o6
    · cases o4
  | _ =>
    simp only [am_kind] at hk
    try split at hk
    all_goals cases hk
end AMT
