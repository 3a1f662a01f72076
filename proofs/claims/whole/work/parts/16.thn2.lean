/-! ===== .. and its throw (follows vx_throwS, vx_throwSW) ===== -/
set_option maxHeartbeats 1000000 in
theorem am_thN_ok (l : Launch) (k : AK) (b : Nat) : am_thNs l k b := by
  intro p e R s m args below meth c nL cc0 own0 nm scr d C
  obtain ⟨hexec, -, -, -, hts, hlocks, -, hWd, -, -, -, -, hl⟩ := C
  intro cc pc ik is mc ms sa text len H locs cells slots ls rest Qc XC hb hown hk hini hstr hS hsize d0 d3 d4 d6 d9 hout hRframes hRlocals hRcells hRslots hx hc hs
  intro T hT X
  have htr : e.platform.stackTraces = false := (show e.platform.stackTraces = l.stackTraces by rw [X.admits.platform]).trans hl
  have Y := vx_rebase X (R' := { frames := R.frames, locals := R.locals, cells := 1, slots := 6 }) (Nat.le_refl _) (Nat.le_refl _) hRcells hRslots
  obtain ⟨s1, hA⟩ : ∃ z, z = (T.setVm s.vm).setFrames (.invoking m args :: below) := ⟨_, rfl⟩
  rw [← hA] at Y
  have hvm : s1.vm = s.vm := by rw [hA]; rfl
  have hhp : s1.heap = H := by rw [hA]; exact hT
  have hW0 : s.WarmedH s1.vm := by rw [hvm]; exact State.WarmedH.refl s
  have hUs := hWd.2.2.2.2.2.2.1
  have hNs := hWd.2.2.2.2.2.2.2.1
  have hat1 : ∀ w ∈ am_LN.filter vx_no, w.before args s1 = true := by
    intro w hw
    have h1 := am_LN_ok w hw
    simp only [am_xw, Bool.and_eq_true, Bool.or_eq_true, decide_eq_true_eq] at h1
    refine vx_ot_at (args := args) hW0 hvm.symm h1.2 ?_
    rcases h1.1.2 with q | q
    · exact hts w (am_T_in h1.1.1 q)
    · exact va_Nw.use (am_isn_tab q) (hWd.2.2.2.2.2.2.2.2.2.2.1 w h1.1.1 q)
  have hk1 : (Jvm.Cond.classLink "PebbleProofs" ik am_nse).before args s1 = true := vx_ot_at hW0 hvm.symm rfl hk
  have hini1 : (Jvm.Cond.initialized am_nse).before args s1 = true := vx_ot_at hW0 hvm.symm rfl hini
  have hU1 : vx_Zq Bundle.tN "UNASSIGNED_STACK" Bundle.steD (am_A k) s1 s1.heap := by rw [hhp]; exact vx_Zq.moved hW0.alike (hUs.kept hS.2.1)
  have hN1 : vx_Zq Bundle.tN "SUPPRESSED_SENTINEL" Bundle.listD (am_A k) s1 s1.heap := by rw [hhp]; exact vx_Zq.moved hW0.alike (hNs.kept hS.2.1)
  have h : ∀ w ∈ am_LN, w.before args s1 = true := vx_own hat1 (vx_isRefq hU1.1) (vx_isRefq hN1.1) hU1.2.word hN1.2.word
  have hown1 : s1.vm.findClass "PebbleProofs" = some m.cls := by rw [hvm]; exact hown
  have hins : (Jvm.Cond.instantiable am_nse 6).before args s1 = true := h _ (by decide +kernel)
  obtain ⟨vm₁, cX, kX, hfX, hkX, -, -, X₁, st1⟩ := Y.newCold hexec (own := "PebbleProofs") (C := am_nse) (index := ik) (n := 6) hown1 hk1 hins hini1
    (g := F0 m pc ls rest) rfl (by rw [hb]; exact d0) (Nat.le_refl _) (Nat.le_refl _)
  generalize hT1 : (T.setVm vm₁).pushCell { cls := cX, slots := kX.instanceTypes.map defaultValue, vm := .none } = T1 at X₁ st1
  have hcat : (Value.ref T.heap.size).category = 1 := rfl
  have hcellA : T1.heap[T.heap.size]? = some (freshCell cX kX) := by rw [← hT1]; exact State.heap_pushCell_size _ _
  have d31 : decode c.code (pc + 3) = .ok (.dup, 1) := by rw [hb]; exact d3
  have hstr1 : vk_R "PebbleProofs" is text sa s1 := vk_R.warm hW0 hstr
  obtain ⟨U, hsteps, hrun, hend, hW, hsame, ce, hce, hcv, hcl0⟩ := am_ctorN X₁ hexec htr hown1 h (fun x hx => nomatch hx) hfX hkX hcellA (by rw [hhp, hT]; exact Nat.le_refl _) (msg := .ref sa) rfl
    (g := { method := m, pc := pc + 4 + len, locals := ls, stack := .ref sa :: .ref T.heap.size :: .ref T.heap.size :: rest, locked := none }) rfl hsize rfl rfl (rest := rest) rfl
    (by rw [hb]; exact d6) (by rw [hb]; show decode cc (pc + 4 + len + 3) = _; rw [show pc + 4 + len + 3 = pc + 7 + len by omega]; exact d9) (fun x hx => (hout x hx).elim) (by show 2 + 3 < R.frames; omega) (by simp only [List.map_cons, List.sum_cons, hcat]; omega) hlocks
  obtain ⟨f1, f2⟩ := vx_frame hsame
  rw [hhp] at f1 f2
  have hWs : s.WarmedH U.vm := State.WarmedH.trans hW0 hW
  have hcl : s.vm.findClass am_nse = some ce.cls := by rw [hvm] at hcl0; exact hcl0
  have hall : s.sameButNew ({ U with vm := s.vm } : State) locs mc ms := by
    subst hA
    obtain ⟨e1, e2⟩ := hsame
    rw [State.setFrames_setFrames] at e1
    have h2 : (T.setVm s.vm).sameButNew ({ U with vm := s.vm } : State) [] (0 + 1) (0 + 6) := ⟨e1, e2⟩
    have h3 := X.same.trans h2
    rw [List.append_nil] at h3
    exact h3.mono hc hs
  refine ⟨U, ?_, .threw T.heap.size, hrun, hend, Or.inr ⟨T.heap.size, rfl, am_nse, ce, locs, hx U hWs.alike f1 (fun q hq => f2 q hq (fun z hz => nomatch hz)), hce, hcv, hcl, hWs, hall, fun z hz => hS.2.2 z hz⟩⟩
  refine st1 _ ?_
  show Steps p.tables e below (T1.setTop { method := m, pc := pc + 3, locals := ls, stack := .ref T.heap.size :: rest, locked := none }) _
  jvm_step X₁.here [X₁.here.top, hexec, d31, Value.category]
  rcases d4 with ⟨rfl, d4⟩ | ⟨rfl, d4⟩
  · exact X₁.ldcString hexec (own := "PebbleProofs") (text := text) (index := is) (a := sa) hown1 hstr1.1 hstr1.2
      (g := { method := m, pc := pc + 4, locals := ls, stack := .ref T.heap.size :: .ref T.heap.size :: rest, locked := none }) rfl (by rw [hb]; exact d4) _ hsteps
  · exact X₁.ldcStringW hexec (own := "PebbleProofs") (text := text) (index := is) (a := sa) hown1 hstr1.1 hstr1.2
      (g := { method := m, pc := pc + 4, locals := ls, stack := .ref T.heap.size :: .ref T.heap.size :: rest, locked := none }) rfl (by rw [hb]; exact d4) _ hsteps
