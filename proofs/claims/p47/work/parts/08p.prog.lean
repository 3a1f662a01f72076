/-! ===== what the tables say of a method ===== -/
def am_cw (Y : AMe) : Jvm.Cond := match Y.2.2.2.2.2.1 with
  | [] => .code Y.1 Y.2.1 Y.2.2.1 Y.2.2.2.2.1
  | q :: r => .codeWith Y.1 Y.2.1 Y.2.2.1 Y.2.2.2.2.1 ((q :: r).map fun z => (z.1, z.2.1, z.2.2.1, z.2.2.2.1))
/-- what the tables say of a method -/
def am_okY (Y : AMe) : Prop := plainName Y.1.cls = true ∧ (Y.1.cls ≠ "java/lang/invoke/MethodHandle" ∧ Y.1.cls ≠ "java/lang/invoke/VarHandle") ∧ Y.2.2.1 ≤ 16 ∧ (parseMethodDescriptor Y.1.desc).map (fun d => d.parameters.length) = some (am_np Y) ∧ am_cw Y ∈ am_T
/-- what the tables say of each instruction of a method, and of its handlers -/
def am_okB (Y : AMe) : Prop := ∀ pc E, am_find Y.2.2.2.2.2.2 pc = some E → ∃ J, am_okE Y.1.cls Y.1.name Y.2.1 E J = true
def am_okH (Y : AMe) : Prop := ∀ q ∈ Y.2.2.2.2.2.1, q.2.2.2.2 < 3 ∧ ¬ q.2.2.2.1 = 0 ∧ Jvm.Cond.classLink Y.1.cls q.2.2.2.1 (am_exn q.2.2.2.2) ∈ am_T
/-! ===== the program is as the tables say (by wip/whole/genprog.py) ===== -/
def am_okL (own nm : String) (cc : ByteArray) (L : List AEn) : Prop := ∀ E ∈ L, ∃ J, am_okE own nm cc E J = true
theorem am_okL_of {own nm : String} {cc : ByteArray} : ∀ {L : List AEn} {Js : List (List (Nat × Nat))}, L.length = Js.length → (L.zip Js).all (fun q => am_okE own nm cc q.1 q.2) = true → am_okL own nm cc L
  | [], _, _, _ => fun E h => absurd h List.not_mem_nil
  | E :: L, [], h, _ => by cases h
  | E :: L, J :: Js, h, h2 => by
    rw [List.zip_cons_cons, List.all_cons, Bool.and_eq_true] at h2
    intro F hF
    rcases List.mem_cons.mp hF with rfl | q
    · exact ⟨J, h2.1⟩
    · exact am_okL_of (Nat.succ.inj h) h2.2 F q
theorem am_okL_app {own nm : String} {cc : ByteArray} {L1 L2 : List AEn} (h1 : am_okL own nm cc L1) (h2 : am_okL own nm cc L2) : am_okL own nm cc (L1 ++ L2) := fun E h => (List.mem_append.mp h).elim (h1 E) (h2 E)
theorem am_find_mem : ∀ {L : List AEn} {pc : Nat} {E : AEn}, am_find L pc = some E → E ∈ L
  | [], _, _, h => by cases h
  | q :: L, pc, E, h => by
    unfold am_find at h
    split at h
    · cases h; exact List.mem_cons_self
    · exact List.mem_cons_of_mem _ (am_find_mem h)
def am_okA (Y : AMe) : Prop := am_okY Y ∧ am_okB Y ∧ am_okH Y
theorem am_mk {Y : AMe} (q : Nat × Nat) (h1 : (plainName Y.1.cls && decide (Y.1.cls ≠ "java/lang/invoke/MethodHandle" ∧ Y.1.cls ≠ "java/lang/invoke/VarHandle") && decide (Y.2.2.1 ≤ 16) && decide ((parseMethodDescriptor Y.1.desc).map (fun d => d.parameters.length) = some (am_np Y)) && am_hs q (am_cw Y)) = true) (h2 : am_okL Y.1.cls Y.1.name Y.2.1 Y.2.2.2.2.2.2) (h3 : am_okH Y) : am_okA Y := by
  simp only [Bool.and_eq_true, decide_eq_true_eq] at h1
  exact ⟨⟨h1.1.1.1.1, h1.1.1.1.2, h1.1.1.2, h1.1.2, am_hs_in h1.2⟩, fun pc E h => h2 E (am_find_mem h), h3⟩
theorem am_h0 {Y : AMe} (h : Y.2.2.2.2.2.1 = []) : am_okH Y := fun q hq => by rw [h] at hq; cases hq
theorem am_h1 {Y : AMe} (qs : List (Nat × Nat)) (h : (Y.2.2.2.2.2.1.zip qs).all (fun z => decide (z.1.2.2.2.2 < 3) && decide (¬ z.1.2.2.2.1 = 0) && am_hs z.2 (.classLink Y.1.cls z.1.2.2.2.1 (am_exn z.1.2.2.2.2))) = true) (hl : Y.2.2.2.2.2.1.length = qs.length) : am_okH Y := by
  intro q hq
  obtain ⟨i, hi⟩ := List.getElem?_of_mem hq
  have hlt := (List.getElem?_eq_some_iff.mp hi).1
  have hz : (q, qs[i]'(by rw [← hl]; exact hlt)) ∈ Y.2.2.2.2.2.1.zip qs := List.mem_of_getElem? (i := i) (by rw [List.getElem?_zip_eq_some]; exact ⟨hi, List.getElem?_eq_getElem (by rw [← hl]; exact hlt)⟩)
  have h2 := List.all_eq_true.mp h _ hz
  simp only [Bool.and_eq_true, decide_eq_true_eq] at h2
  exact ⟨h2.1.1, h2.1.2, am_hs_in h2.2⟩
theorem am_ac {a : AMe} {L : List AMe} (h : am_okA a) (t : ∀ x ∈ L, am_okA x) : ∀ x ∈ a :: L, am_okA x := fun x hx => (List.mem_cons.mp hx).elim (fun q => q ▸ h) (t x)
theorem am_an : ∀ x ∈ ([] : List AMe), am_okA x := fun x hx => absurd hx List.not_mem_nil
theorem am_c0_0 : am_okL "PebbleProofs$Board" "<init>" am_M0.2.1 am_e0_0 := am_okL_of (Js := [[], [(1, 47), (1, 40), (1, 41)], [], [], [], [(1, 59)], [], [], [], [(1, 62)], [], [], [], [(1, 63)], [], [], [], [(1, 66)], [], [], [], [(1, 67)], []]) rfl (by decide +kernel)
theorem am_y0 : am_okA am_M0 := am_mk (1, 46) (by decide +kernel) am_c0_0 (am_h0 rfl)
theorem am_c1_0 : am_okL "PebbleProofs$Board" "begin" am_M1.2.1 am_e1_0 := am_okL_of (Js := [[], [], [(1, 48)], [], [], [(1, 52)], [], [], [(1, 54)], [], [], [(1, 56)], [], [(1, 59)], [], [(1, 173), (1, 174), (1, 6)], []]) rfl (by decide +kernel)
theorem am_y1 : am_okA am_M1 := am_mk (1, 172) (by decide +kernel) am_c1_0 (am_h0 rfl)
theorem am_c2_0 : am_okL "PebbleProofs$Board" "copyFrom" am_M2.2.1 am_e2_0 := am_okL_of (Js := [[], [], [(1, 48)], [(1, 48)], [], [], [(1, 52)], [(1, 52)], [], [], [(1, 54)], [(1, 54)], [], [], [(1, 56)], [(1, 56)], [], [(1, 59)], [], [], [(1, 59)], [], [], [(2, 143), (2, 145), (2, 144), (1, 11)], [], [(1, 62)], [], [], [(1, 62)], [], [], [(2, 143), (2, 145), (2, 144), (1, 11)], [], [(1, 63)], [], [], [(1, 63)], [], [], [(2, 143), (2, 145), (2, 144), (1, 11)], [], [(1, 66)], [], [], [(1, 66)], [], [], [(2, 143), (2, 145), (2, 144), (1, 11)], [], [(1, 67)], [], [], [(1, 67)], [], [], [(2, 143), (2, 145), (2, 144), (1, 11)], []]) rfl (by decide +kernel)
theorem am_y2 : am_okA am_M2 := am_mk (2, 142) (by decide +kernel) am_c2_0 (am_h0 rfl)
theorem am_c3_0 : am_okL "PebbleProofs$Board" "edgeBits" am_M3.2.1 am_e3_0 := am_okL_of (Js := [[], [], [], [], [], [], [], [], [], [], [], [], [], [], [], []]) rfl (by decide +kernel)
theorem am_y3 : am_okA am_M3 := am_mk (1, 182) (by decide +kernel) am_c3_0 (am_h0 rfl)
theorem am_c4_0 : am_okL "PebbleProofs$Board" "join" am_M4.2.1 am_e4_0 := am_okL_of (Js := [[], [], [(1, 52)], [], [], [(1, 180), (1, 181), (1, 2)], [], [(1, 52)], []]) rfl (by decide +kernel)
theorem am_y4 : am_okA am_M4 := am_mk (1, 179) (by decide +kernel) am_c4_0 (am_h0 rfl)
theorem am_c5_0 : am_okL "PebbleProofs$Board" "part" am_M5.2.1 am_e5_0 := am_okL_of (Js := [[], [], [(1, 52)], [], [], [(1, 180), (1, 181), (1, 2)], [(6, 34)], [], [], [(1, 52)], []]) rfl (by decide +kernel)
theorem am_y5 : am_okA am_M5 := am_mk (6, 38) (by decide +kernel) am_c5_0 (am_h0 rfl)
theorem am_c6_0 : am_okL "PebbleProofs$Board" "joins" am_M6.2.1 am_e6_0 := am_okL_of (Js := [[], [(1, 52)], [], [], [], [], [], [], [], [], [], [], [], [], [], [], []]) rfl (by decide +kernel)
theorem am_y6 : am_okA am_M6 := am_mk (2, 91) (by decide +kernel) am_c6_0 (am_h0 rfl)
theorem am_c7_0 : am_okL "PebbleProofs$Board" "edgeCount" am_M7.2.1 am_e7_0 := am_okL_of (Js := [[], [(1, 52)], [(5, 36), (5, 37), (1, 25)], [], [], []]) rfl (by decide +kernel)
theorem am_y7 : am_okA am_M7 := am_mk (5, 35) (by decide +kernel) am_c7_0 (am_h0 rfl)
theorem am_c8_0 : am_okL "PebbleProofs$Board" "neighboursIn" am_M8.2.1 am_e8_0 := am_okL_of (Js := [[], [], [], [], [], [], [], [], []]) rfl (by decide +kernel)
theorem am_y8 : am_okA am_M8 := am_mk (1, 197) (by decide +kernel) am_c8_0 (am_h0 rfl)
theorem am_c9_0 : am_okL "PebbleProofs$Board" "neighbours" am_M9.2.1 am_e9_0 := am_okL_of (Js := [[], [(1, 52)], [], [(1, 195), (1, 196), (1, 2)], []]) rfl (by decide +kernel)
theorem am_y9 : am_okA am_M9 := am_mk (1, 194) (by decide +kernel) am_c9_0 (am_h0 rfl)
theorem am_c10_0 : am_okL "PebbleProofs$Board" "isConnectedBy" am_M10.2.1 am_e10_0 := am_okL_of (Js := [[], [], [], [], [], [], [(1, 48)], [], [], [], [], [], [(1, 48)], [], [], [], [], [], [], [], [], [], [], [(1, 195), (1, 196), (1, 2)], [], [], [], [], [], [], [], [(2, 124), (2, 125), (1, 18)], [], [(1, 48)], [], [], [], [], []]) rfl (by decide +kernel)
theorem am_y10 : am_okA am_M10 := am_mk (2, 123) (by decide +kernel) am_c10_0 (am_h0 rfl)
theorem am_c11_0 : am_okL "PebbleProofs$Board" "isConnected" am_M11.2.1 am_e11_0 := am_okL_of (Js := [[], [], [(1, 52)], [(2, 120), (2, 122), (0, 14), (1, 2)], []]) rfl (by decide +kernel)
theorem am_y11 : am_okA am_M11 := am_mk (2, 119) (by decide +kernel) am_c11_0 (am_h0 rfl)
theorem am_c12_0 : am_okL "PebbleProofs$Board" "isConnectedWithout" am_M12.2.1 am_e12_0 := am_okL_of (Js := [[], [], [(1, 52)], [], [], [(1, 180), (1, 181), (1, 2)], [(6, 34)], [], [], [(2, 120), (2, 122), (0, 14), (1, 2)], []]) rfl (by decide +kernel)
theorem am_y12 : am_okA am_M12 := am_mk (6, 33) (by decide +kernel) am_c12_0 (am_h0 rfl)
theorem am_c13_0 : am_okL "PebbleProofs$Board" "measure" am_M13.2.1 am_e13_0 := am_okL_of (Js := [[], [], [], [], [(1, 48)], [], [], [], [(1, 187), (1, 189), (0, 0), (1, 2)], [], [], []]) rfl (by decide +kernel)
theorem am_y13 : am_okA am_M13 := am_mk (1, 186) (by decide +kernel) am_c13_0 (am_h0 rfl)
theorem am_c14_0 : am_okL "PebbleProofs$Board" "measureFrom" am_M14.2.1 am_e14_0 := am_okL_of (Js := [[], [], [], [], [], [], [], [], [], [], [(1, 48)], [], [], [], [], [], [], [], [], [], [], [], [(1, 48)], [], [], [], [], [], [], [], [], [(1, 62)], [], [], [], [], [], [], [], [], [], [], [(1, 191), (1, 192), (1, 193), (1, 2)], [], [], [], [], [], [], [], [], [], [], [], [], []]) rfl (by decide +kernel)
theorem am_y14 : am_okA am_M14 := am_mk (1, 190) (by decide +kernel) am_c14_0 (am_h0 rfl)
theorem am_c15_0 : am_okL "PebbleProofs$Board" "apart" am_M15.2.1 am_e15_0 := am_okL_of (Js := [[], [(1, 62)], [], [], [], [], [], [], []]) rfl (by decide +kernel)
theorem am_y15 : am_okA am_M15 := am_mk (5, 10) (by decide +kernel) am_c15_0 (am_h0 rfl)
theorem am_c18_0 : am_okL "PebbleProofs$Board" "diameter" am_M18.2.1 am_e18_0 := am_okL_of (Js := [[], [], [], [], [], [], [(1, 48)], [], [], [], [], [], [], [], [], [], [], [(5, 50), (5, 8), (5, 9), (1, 2)], [(5, 51), (2, 3), (1, 12), (2, 4)], [], [], [], [], [], [], []]) rfl (by decide +kernel)
theorem am_y18 : am_okA am_M18 := am_mk (5, 49) (by decide +kernel) am_c18_0 (am_h0 rfl)
theorem am_c22_0 : am_okL "PebbleProofs$Board" "allPebbles" am_M22.2.1 am_e22_0 := am_okL_of (Js := [[], [], [], [], [], [], [(1, 48)], [], [], [], [(1, 59)], [], [], [], [], [], [], [], []]) rfl (by decide +kernel)
theorem am_y22 : am_okA am_M22 := am_mk (5, 45) (by decide +kernel) am_c22_0 (am_h0 rfl)
theorem am_c23_0 : am_okL "PebbleProofs$Board" "allowsMove" am_M23.2.1 am_e23_0 := am_okL_of (Js := [[], [(1, 59)], [], [], [], [], [], [], [], [(6, 162), (2, 89), (2, 90), (1, 2)], [], [], [(1, 59)], [], [], [], [], [], [], [], []]) rfl (by decide +kernel)
theorem am_y23 : am_okA am_M23 := am_mk (6, 161) (by decide +kernel) am_c23_0 (am_h0 rfl)
theorem am_c24_0 : am_okL "PebbleProofs$Board" "makeMove" am_M24.2.1 am_e24_0 := am_okL_of (Js := [[], [(1, 59)], [], [], [], [], [], [], [], [(1, 59)], [], [], [], [], [], [], [], [], [(1, 54)], [], [], [(1, 54)], []]) rfl (by decide +kernel)
theorem am_y24 : am_okA am_M24 := am_mk (5, 164) (by decide +kernel) am_c24_0 (am_h0 rfl)
theorem am_c25_0 : am_okL "PebbleProofs$Board" "openStrategy" am_M25.2.1 am_e25_0 := am_okL_of (Js := [[], [(1, 56)], [], [], [(1, 63)], [], [], [], [], [], [], [], [], [], [], [], [], [], [(2, 107), (2, 108), (2, 109), (1, 2)], [], [], [], [], [(1, 56)], [], [], [(1, 56)], []]) rfl (by decide +kernel)
theorem am_y25 : am_okA am_M25 := am_mk (2, 106) (by decide +kernel) am_c25_0 (am_h0 rfl)
theorem am_c26_0 : am_okL "PebbleProofs$Board" "closeStrategy" am_M26.2.1 am_e26_0 := am_okL_of (Js := [[], [], [], [], [], [], [(1, 56)], [], [], [(1, 63)], [], [], [(1, 63)], [], [], [], [], [], [], [], [], [], [(1, 48)], [], [], [], [], [], [], [], [], [], [(6, 195), (5, 81), (5, 82), (1, 2)], [], [], [], [], [], [(6, 196), (5, 77), (5, 78), (1, 2)], [(2, 107), (2, 108), (2, 109), (1, 2)], [], [], [], [], [], [], [(1, 56)], [], [], [(1, 56)], []]) rfl (by decide +kernel)
theorem am_y26 : am_okA am_M26 := am_mk (6, 194) (by decide +kernel) am_c26_0 (am_h0 rfl)
theorem am_c27_0 : am_okL "PebbleProofs$Board" "setWeight" am_M27.2.1 am_e27_0 := am_okL_of (Js := [[], [(1, 66)], [], [], [], [], [], [], [], [], [(1, 67)], [], [], [], [], [], [], [], []]) rfl (by decide +kernel)
theorem am_y27 : am_okA am_M27 := am_mk (2, 110) (by decide +kernel) am_c27_0 (am_h0 rfl)
theorem am_c28_0 : am_okL "PebbleProofs$Board" "weightOf" am_M28.2.1 am_e28_0 := am_okL_of (Js := [[], [(1, 66)], [], [], [], [], [], [], []]) rfl (by decide +kernel)
theorem am_y28 : am_okA am_M28 := am_mk (5, 79) (by decide +kernel) am_c28_0 (am_h0 rfl)
theorem am_c29_0 : am_okL "PebbleProofs$Board" "parentOf" am_M29.2.1 am_e29_0 := am_okL_of (Js := [[], [(1, 67)], [], [], [], [], [], [], []]) rfl (by decide +kernel)
theorem am_y29 : am_okA am_M29 := am_mk (5, 83) (by decide +kernel) am_c29_0 (am_h0 rfl)
theorem am_c36_0 : am_okL "PebbleProofs$FailingPiles" "<init>" am_M36.2.1 am_e36_0 := am_okL_of (Js := [[], [(6, 69), (1, 40), (1, 41)], [], [], [], [(6, 77)], [], [], [], [(6, 78)], [], [], [], [(6, 79)], [], [], [], [(6, 80)], [], [], [], [(6, 81)], [], [], [(6, 70)], []]) rfl (by decide +kernel)
theorem am_y36 : am_okA am_M36 := am_mk (6, 68) (by decide +kernel) am_c36_0 (am_h0 rfl)
theorem am_c37_0 : am_okL "PebbleProofs$FailingPiles" "areOf" am_M37.2.1 am_e37_0 := am_okL_of (Js := [[], [(6, 71)], [], [], [(6, 72)], [], [(1, 49)], [], [], [(6, 73)], [], [(1, 53)], [], [], [], [], [], []]) rfl (by decide +kernel)
theorem am_y37 : am_okA am_M37 := am_mk (6, 110) (by decide +kernel) am_c37_0 (am_h0 rfl)
theorem am_c38_0 : am_okL "PebbleProofs$FailingPiles" "clear" am_M38.2.1 am_e38_0 := am_okL_of (Js := [[], [], [(6, 71)], [], [], [(1, 49)], [(6, 72)], [], [], [(1, 53)], [(6, 73)], [], [(6, 81)], [], [(6, 119), (1, 174), (1, 6)], [], [(6, 77)], [], [(6, 119), (1, 174), (1, 6)], [], [], [], [(6, 72)], [], [], [], [], [], [], [], [(6, 70)], [], [(6, 120), (5, 8), (5, 9), (1, 2)], [], [], [(6, 78)], [], [], [], [], [], [], [], [], [(6, 79)], [], [], [], [], [(6, 80)], [], [], [], [(6, 121), (1, 192), (1, 193), (1, 2)], [], [], [], [], [], []]) rfl (by decide +kernel)
theorem am_c38_1 : am_okL "PebbleProofs$FailingPiles" "clear" am_M38.2.1 am_e38_1 := am_okL_of (Js := [[], []]) rfl (by decide +kernel)
theorem am_y38 : am_okA am_M38 := am_mk (6, 118) (by decide +kernel) (am_okL_app am_c38_0 am_c38_1) (am_h0 rfl)
theorem am_c39_0 : am_okL "PebbleProofs$FailingPiles" "mark" am_M39.2.1 am_e39_0 := am_okL_of (Js := [[], [(6, 81)], [], [], [], [], [], [], [], [], [], [], [], [], [], [], []]) rfl (by decide +kernel)
theorem am_y39 : am_okA am_M39 := am_mk (6, 125) (by decide +kernel) am_c39_0 (am_h0 rfl)
theorem am_c40_0 : am_okL "PebbleProofs$FailingPiles" "isMarked" am_M40.2.1 am_e40_0 := am_okL_of (Js := [[], [(6, 81)], [], [], [], [], [], [], [], [], [], [], [], [], [], [], [], [], []]) rfl (by decide +kernel)
theorem am_y40 : am_okA am_M40 := am_mk (6, 149) (by decide +kernel) am_c40_0 (am_h0 rfl)
theorem am_c41_0 : am_okL "PebbleProofs$FailingPiles" "pebblesOn" am_M41.2.1 am_e41_0 := am_okL_of (Js := [[], [], [(6, 79)], [], [], [], [], [(6, 78)], [], [], [], []]) rfl (by decide +kernel)
theorem am_y41 : am_okA am_M41 := am_mk (6, 141) (by decide +kernel) am_c41_0 (am_h0 rfl)
theorem am_c42_0 : am_okL "PebbleProofs$FailingPiles" "hasRoom" am_M42.2.1 am_e42_0 := am_okL_of (Js := [[], [], [], [], [(6, 79)], [], [], [], [], [(6, 78)], [], [], [], [], [], [], [], []]) rfl (by decide +kernel)
theorem am_y42 : am_okA am_M42 := am_mk (6, 133) (by decide +kernel) am_c42_0 (am_h0 rfl)
theorem am_c43_0 : am_okL "PebbleProofs$FailingPiles" "holds" am_M43.2.1 am_e43_0 := am_okL_of (Js := [[], [], [], [], [], [], [(6, 72)], [], [], [], [], [], [(6, 78)], [], [], [], [], [], [], [], [], [], [], [(6, 79)], [], [], [], [], [], [], [], [], [], [(6, 146), (6, 148), (0, 32), (1, 33)], []]) rfl (by decide +kernel)
theorem am_y43 : am_okA am_M43 := am_mk (6, 153) (by decide +kernel) am_c43_0 (am_h0 rfl)
theorem am_c44_0 : am_okL "PebbleProofs$FailingPiles" "collect" am_M44.2.1 am_e44_0 := am_okL_of (Js := [[], [], [(6, 115), (6, 117), (0, 26), (1, 33)], [], [], [], [], [], [], [(6, 122), (6, 124), (0, 27), (1, 33)], [], [], [], [], [], [], [], [], [], [], [], [], [], [(6, 77)], [], [], [], [], [], [], [], [], [], [(6, 74)], [], [], [], [], [(6, 75)], [], [], [], [], [(6, 76)], [], [], [], [], [(6, 126), (6, 128), (0, 28), (1, 33)], [], [], [], [], [], [], [], []]) rfl (by decide +kernel)
theorem am_y44 : am_okA am_M44 := am_mk (6, 114) (by decide +kernel) am_c44_0 (am_h0 rfl)
theorem am_c45_0 : am_okL "PebbleProofs$FailingPiles" "extend" am_M45.2.1 am_e45_0 := am_okL_of (Js := [[], [], [], [], [], [], [], [], [], [], [], [], [(6, 72)], [], [], [], [], [], [], [], [], [(6, 79)], [], [], [], [], [], [], [], [], [(6, 130), (6, 132), (0, 29), (1, 33)], [], [], [], [], [], [], [], [(6, 134), (6, 136), (0, 30), (1, 33)], [], [], [], [(6, 122), (6, 124), (0, 27), (1, 33)], [], [], [], [], [], [], [], [], [(6, 138), (6, 139), (6, 140), (1, 33)], [], [], [], [], [], [], [], []]) rfl (by decide +kernel)
theorem am_y45 : am_okA am_M45 := am_mk (6, 129) (by decide +kernel) am_c45_0 (am_h0 rfl)
theorem am_c46_0 : am_okL "PebbleProofs$FailingPiles" "fails" am_M46.2.1 am_e46_0 := am_okL_of (Js := [[], [], [], [], [(6, 72)], [], [], [], [], [(6, 138), (6, 139), (6, 140), (1, 33)], [], [], [], [], [], [(6, 142), (6, 144), (0, 31), (1, 33)], [], [], [], [], [], [], []]) rfl (by decide +kernel)
theorem am_y46 : am_okA am_M46 := am_mk (6, 137) (by decide +kernel) am_c46_0 (am_h0 rfl)
theorem am_c47_0 : am_okL "PebbleProofs$FailingPiles" "failsAfterMoveFrom" am_M47.2.1 am_e47_0 := am_okL_of (Js := [[], [], [], [(6, 79)], [], [], [], [], [], [], [], [], [], [(6, 72)], [], [], [(6, 80)], [], [], [], [], [], [], [], [], [], [], [(6, 130), (6, 132), (0, 29), (1, 33)], [], [], [], [], [], [(6, 79)], [], [], [], [], [(6, 146), (6, 148), (0, 32), (1, 33)], [], [], [], [], [], [], []]) rfl (by decide +kernel)
theorem am_y47 : am_okA am_M47 := am_mk (6, 145) (by decide +kernel) am_c47_0 (am_h0 rfl)
theorem am_c48_0 : am_okL "PebbleProofs$History" "<init>" am_M48.2.1 am_e48_0 := am_okL_of (Js := [[], [(1, 93), (1, 40), (1, 41)], [], [], [(1, 94)], [(1, 96)], []]) rfl (by decide +kernel)
theorem am_y48 : am_okA am_M48 := am_mk (1, 92) (by decide +kernel) am_c48_0 (am_h0 rfl)
theorem am_c49_0 : am_okL "PebbleProofs$History" "forget" am_M49.2.1 am_e49_0 := am_okL_of (Js := [[], [], [(1, 98)], []]) rfl (by decide +kernel)
theorem am_y49 : am_okA am_M49 := am_mk (5, 98) (by decide +kernel) am_c49_0 (am_h0 rfl)
theorem am_c50_0 : am_okL "PebbleProofs$History" "keep" am_M50.2.1 am_e50_0 := am_okL_of (Js := [[], [(1, 98)], [], [], [], [], [(1, 97)], [], [], [], [], [(1, 97)], [], [], [(1, 98)], [], [], [(1, 98)], [], [(1, 97)], [], [(1, 98)], [], [], [], [], [], [(1, 96)], [], [], [], [], [], [(1, 94), (1, 43), (1, 2)], [], [(5, 159), (1, 45), (1, 2)], [], [], [(1, 96)], [], [], [], [], [], [(5, 160), (2, 140), (2, 141), (1, 2)], [], [], [(1, 98)], [], [], [(1, 98)], []]) rfl (by decide +kernel)
theorem am_y50 : am_okA am_M50 := am_mk (5, 158) (by decide +kernel) am_c50_0 (am_h0 rfl)
theorem am_c51_0 : am_okL "PebbleProofs$History" "bringBack" am_M51.2.1 am_e51_0 := am_okL_of (Js := [[], [], [(1, 98)], [], [], [(1, 98)], [], [(1, 96)], [], [(1, 97)], [], [(1, 98)], [], [], [], [], [], [], [], [], [], [(5, 160), (2, 140), (2, 141), (1, 2)], []]) rfl (by decide +kernel)
theorem am_y51 : am_okA am_M51 := am_mk (5, 177) (by decide +kernel) am_c51_0 (am_h0 rfl)
theorem am_c52_0 : am_okL "PebbleProofs$Outlook" "<init>" am_M52.2.1 am_e52_0 := am_okL_of (Js := [[], [(1, 144), (1, 40), (1, 41)], [], [], [], [(1, 145)], [], [], [], [(1, 146)], [], [], [], [(1, 147)], []]) rfl (by decide +kernel)
theorem am_y52 : am_okA am_M52 := am_mk (1, 143) (by decide +kernel) am_c52_0 (am_h0 rfl)
theorem am_c62_0 : am_okL "PebbleProofs$SetupText" "<init>" am_M62.2.1 am_e62_0 := am_okL_of (Js := [[], [(1, 112), (1, 40), (1, 41)], [], [], [], [(1, 115)], [], [(1, 113), (1, 43), (1, 2)], [], [(1, 114), (1, 45), (1, 2)], [(1, 118)], []]) rfl (by decide +kernel)
theorem am_y62 : am_okA am_M62 := am_mk (1, 111) (by decide +kernel) am_c62_0 (am_h0 rfl)
theorem am_c63_0 : am_okL "PebbleProofs$SetupText" "bytesIn" am_M63.2.1 am_e63_0 := am_okL_of (Js := [[], [], [], [], [], [], [], [], [], [], [], [], [], [], [], [], []]) rfl (by decide +kernel)
theorem am_y63 : am_okA am_M63 := am_mk (5, 120) (by decide +kernel) am_c63_0 (am_h0 rfl)
theorem am_c64_0 : am_okL "PebbleProofs$SetupText" "addBytes" am_M64.2.1 am_e64_0 := am_okL_of (Js := [[], [], [], [], [], [], [], [], [], [], [], [], [], [(1, 117)], [], [], [], [(1, 115)], [], [(1, 117)], [], [], [], [], [(1, 117)], [], [], [(1, 117)], [], [], []]) rfl (by decide +kernel)
theorem am_y64 : am_okA am_M64 := am_mk (5, 140) (by decide +kernel) am_c64_0 (am_h0 rfl)
theorem am_c65_0 : am_okL "PebbleProofs$SetupText" "endOfRun" am_M65.2.1 am_e65_0 := am_okL_of (Js := [[], [(1, 121)], [], [], [], [(1, 117)], [], [], [(1, 115)], [], [], [], [], [], [(1, 115)], [], [], [], [], [], [], [], []]) rfl (by decide +kernel)
theorem am_y65 : am_okA am_M65 := am_mk (2, 1) (by decide +kernel) am_c65_0 (am_h0 rfl)
theorem am_c66_0 : am_okL "PebbleProofs$SetupText" "readToken" am_M66.2.1 am_e66_0 := am_okL_of (Js := [[], [], [(1, 122)], [(1, 121)], [], [], [], [], [(1, 238), (2, 0), (0, 2), (1, 4)], [(1, 121)], [], [], [], [(1, 238), (2, 0), (0, 2), (1, 4)], [], [], [], [], [(1, 238), (2, 0), (0, 2), (1, 4)], [], [], [], [], [(2, 2), (2, 3), (1, 12), (2, 4)], [(1, 122)], [], [(1, 121)], [], [(1, 117)], [], [], [], [(1, 120)], [], [], [], [(1, 121)], [], [], [], [(1, 120)], [], [], [], [(1, 121)], [], [], [], [(1, 120)], [], [], [(2, 5), (2, 7), (0, 3), (1, 4)], [(1, 123)], [], [], [], [(1, 120)], [], [], [(1, 115)]]) rfl (by decide +kernel)
theorem am_c66_1 : am_okL "PebbleProofs$SetupText" "readToken" am_M66.2.1 am_e66_1 := am_okL_of (Js := [[], [(1, 121)], [], [(1, 123)], [], [], [(1, 121)], [], [], [(1, 122)], []]) rfl (by decide +kernel)
theorem am_y66 : am_okA am_M66 := am_mk (1, 237) (by decide +kernel) (am_okL_app am_c66_0 am_c66_1) (am_h0 rfl)
theorem am_c67_0 : am_okL "PebbleProofs$SetupText" "numberRead" am_M67.2.1 am_e67_0 := am_okL_of (Js := [[], [(1, 122)], [], [(1, 121)], [], [], [], [], [], [], [], [], [(1, 121)], [], [], [], [(1, 122)], [], [], [], [], [], [(1, 115)], [], [], [], [], [], [], [], [], [], []]) rfl (by decide +kernel)
theorem am_y67 : am_okA am_M67 := am_mk (2, 8) (by decide +kernel) am_c67_0 (am_h0 rfl)
theorem am_c68_0 : am_okL "PebbleProofs$SetupText" "isWord" am_M68.2.1 am_e68_0 := am_okL_of (Js := [[], [(1, 120)], [], [], [], [(1, 122)], [], [(1, 121)], [], [], [(2, 18), (2, 19), (2, 20), (1, 13)], [], [], [], [], [], [], [], [(2, 18), (2, 19), (2, 20), (1, 13)], [], [], [(1, 115)], [], [(1, 121)], [], [], [], [], [], [(2, 28), (2, 29), (2, 30), (1, 13)], [], [], [], [], [], [], []]) rfl (by decide +kernel)
theorem am_y68 : am_okA am_M68 := am_mk (2, 17) (by decide +kernel) am_c68_0 (am_h0 rfl)
theorem am_c69_0 : am_okL "PebbleProofs$SetupText" "isNumber" am_M69.2.1 am_e69_0 := am_okL_of (Js := [[], [(1, 120)], [], [], [], [(1, 123)], [], [], [], [(1, 123)], [], [], [], [], [], []]) rfl (by decide +kernel)
theorem am_y69 : am_okA am_M69 := am_mk (2, 69) (by decide +kernel) am_c69_0 (am_h0 rfl)
theorem am_c70_0 : am_okL "PebbleProofs$SetupText" "isVertex" am_M70.2.1 am_e70_0 := am_okL_of (Js := [[], [], [], [(1, 118)], [(1, 51)], [], [], [(2, 66), (2, 68), (0, 6), (1, 4)], []]) rfl (by decide +kernel)
theorem am_y70 : am_okA am_M70 := am_mk (2, 87) (by decide +kernel) am_c70_0 (am_h0 rfl)
theorem am_c71_0 : am_okL "PebbleProofs$SetupText" "isSemicolon" am_M71.2.1 am_e71_0 := am_okL_of (Js := [[], [(1, 120)], [], [], [], [(1, 123)], [], [], [], [], [], []]) rfl (by decide +kernel)
theorem am_y71 : am_okA am_M71 := am_mk (2, 74) (by decide +kernel) am_c71_0 (am_h0 rfl)
theorem am_c72_0 : am_okL "PebbleProofs$SetupText" "check" am_M72.2.1 am_e72_0 := am_okL_of (Js := [[], [], [(1, 122)], [], [(1, 234), (1, 236), (0, 1), (1, 4)], [], [(2, 9), (2, 11), (0, 4), (1, 4)], [], [], [], [], [], [], [], [], [], [(2, 71), (2, 73), (0, 7), (1, 4)], [], [], [(1, 234), (1, 236), (0, 1), (1, 4)], [], [(2, 75), (2, 77), (0, 8), (1, 4)], [], [], [], [], [], [], [(1, 120)], [], [], [(1, 118)], [(2, 116), (2, 117), (2, 118), (1, 2)], [], [], [], [], [(1, 121)], []]) rfl (by decide +kernel)
theorem am_y72 : am_okA am_M72 := am_mk (1, 233) (by decide +kernel) am_c72_0 (am_h0 rfl)
theorem am_c73_0 : am_okL "PebbleProofs$SetupText" "readVertices" am_M73.2.1 am_e73_0 := am_okL_of (Js := [[], [(2, 13)], [(2, 14), (2, 16), (0, 5), (1, 4)], [], [], [], [], [(1, 234), (1, 236), (0, 1), (1, 4)], [], [], [], [(2, 66), (2, 68), (0, 6), (1, 4)], [], [], [], [], [(1, 118)], [], [(1, 123)], [(2, 70), (1, 170), (1, 171), (1, 2)], [], [(1, 234), (1, 236), (0, 1), (1, 4)], [], []]) rfl (by decide +kernel)
theorem am_y73 : am_okA am_M73 := am_mk (2, 12) (by decide +kernel) am_c73_0 (am_h0 rfl)
theorem am_c74_0 : am_okL "PebbleProofs$SetupText" "readStatement" am_M74.2.1 am_e74_0 := am_okL_of (Js := [[], [(2, 79)], [(2, 14), (2, 16), (0, 5), (1, 4)], [], [], [(2, 80), (2, 82), (0, 9), (1, 4)], [], [], [(2, 93)], [(2, 14), (2, 16), (0, 5), (1, 4)], [], [], [(2, 94), (2, 96), (0, 11), (1, 4)], [], [], [(2, 98)], [(2, 14), (2, 16), (0, 5), (1, 4)], [], [], [(2, 99), (2, 101), (0, 12), (1, 4)], [], [], [], [], []]) rfl (by decide +kernel)
theorem am_y74 : am_okA am_M74 := am_mk (2, 78) (by decide +kernel) am_c74_0 (am_h0 rfl)
theorem am_c75_0 : am_okL "PebbleProofs$SetupText" "readPath" am_M75.2.1 am_e75_0 := am_okL_of (Js := [[], [(1, 234), (1, 236), (0, 1), (1, 4)], [], [(2, 84), (2, 86), (0, 10), (1, 4)], [], [], [], [], [(1, 123)], [], [], [(1, 234), (1, 236), (0, 1), (1, 4)], [], [], [], [], [], [], [], [], [(1, 120)], [], [], [], [(2, 84), (2, 86), (0, 10), (1, 4)], [], [], [(1, 123)], [], [], [], [(1, 118)], [], [], [(1, 123)], [(2, 88), (2, 89), (2, 90), (1, 2)], [], [], [], [], [(1, 118)], [], [], [(1, 123)], [(2, 92), (1, 177), (1, 178), (1, 2)], [], [(1, 123)], [], [], [(1, 234), (1, 236), (0, 1), (1, 4)], [], [], [], []]) rfl (by decide +kernel)
theorem am_y75 : am_okA am_M75 := am_mk (2, 83) (by decide +kernel) am_c75_0 (am_h0 rfl)
theorem am_c76_0 : am_okL "PebbleProofs$SetupText" "readPile" am_M76.2.1 am_e76_0 := am_okL_of (Js := [[], [(1, 234), (1, 236), (0, 1), (1, 4)], [], [(2, 84), (2, 86), (0, 10), (1, 4)], [], [], [], [], [(1, 123)], [], [], [(1, 234), (1, 236), (0, 1), (1, 4)], [], [], [], [(2, 66), (2, 68), (0, 6), (1, 4)], [], [], [], [], [(1, 118)], [(1, 61)], [], [], [(1, 123)], [], [], [(1, 234), (1, 236), (0, 1), (1, 4)], [], []]) rfl (by decide +kernel)
theorem am_y76 : am_okA am_M76 := am_mk (2, 97) (by decide +kernel) am_c76_0 (am_h0 rfl)
theorem am_c77_0 : am_okL "PebbleProofs$SetupText" "readStrategy" am_M77.2.1 am_e77_0 := am_okL_of (Js := [[], [(1, 118)], [(1, 58)], [], [], [], [], [], [(1, 234), (1, 236), (0, 1), (1, 4)], [], [(2, 84), (2, 86), (0, 10), (1, 4)], [], [], [], [], [(1, 118)], [], [(1, 123)], [(2, 103), (2, 104), (2, 105), (1, 2)], [], [(1, 234), (1, 236), (0, 1), (1, 4)], [], [], [], [], [], [], [(1, 120)], [], [], [], [], [(1, 118)], [(1, 58)], [], [], [(2, 111), (2, 113), (0, 13), (1, 4)], [], [], [], [], [], [], []]) rfl (by decide +kernel)
theorem am_y77 : am_okA am_M77 := am_mk (2, 102) (by decide +kernel) am_c77_0 (am_h0 rfl)
theorem am_c78_0 : am_okL "PebbleProofs$SetupText" "readWeight" am_M78.2.1 am_e78_0 := am_okL_of (Js := [[], [(2, 84), (2, 86), (0, 10), (1, 4)], [], [], [(1, 123)], [], [(1, 118)], [(1, 65)], [], [], [], [], [], [], [(1, 123)], [], [], [(1, 234), (1, 236), (0, 1), (1, 4)], [], [(2, 84), (2, 86), (0, 10), (1, 4)], [], [], [], [], [(1, 123)], [], [], [(1, 234), (1, 236), (0, 1), (1, 4)], [], [], [], [(2, 66), (2, 68), (0, 6), (1, 4)], [], [], [], [], [(1, 118)], [], [], [], [], [(1, 123)], [(2, 115), (2, 108), (2, 109), (1, 2)], [], [(1, 234), (1, 236), (0, 1), (1, 4)], [], []]) rfl (by decide +kernel)
theorem am_y78 : am_okA am_M78 := am_mk (2, 114) (by decide +kernel) am_c78_0 (am_h0 rfl)
theorem am_c79_0 : am_okL "PebbleProofs" "<init>" am_M79.2.1 am_e79_0 := am_okL_of (Js := [[], [(1, 39), (1, 40), (1, 41)], [], [(1, 42), (1, 43), (1, 2)], [], [(1, 44), (1, 45), (1, 2)], [(1, 198)], [], [(1, 42), (1, 43), (1, 2)], [], [(1, 44), (1, 45), (1, 2)], [(1, 199)], [], [(1, 88), (1, 89), (1, 3)], [], [(1, 90), (1, 91), (1, 3)], [(1, 201)], [], [(1, 107), (1, 108), (1, 4)], [], [(1, 109), (1, 110), (1, 4)], [(1, 202)], [], [(1, 139), (1, 140), (1, 5)], [], [(1, 141), (1, 142), (1, 5)], [(1, 203)], [], [], [(1, 167)], [(1, 204)], [], [], [], [(1, 205)], [], [(1, 198)], [], [(1, 169), (1, 170), (1, 171), (1, 2)], [], [(1, 198)], [], [], [(1, 176), (1, 177), (1, 178), (1, 2)], [], [(1, 198)], [], [], [(1, 176), (1, 177), (1, 178), (1, 2)], [], [(1, 198)], [(1, 183), (1, 184), (1, 185), (1, 2)], [], [(1, 198)], [(1, 60)], [], [], [], []]) rfl (by decide +kernel)
theorem am_y79 : am_okA am_M79 := am_mk (1, 38) (by decide +kernel) am_c79_0 (am_h0 rfl)
