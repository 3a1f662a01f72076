/-! ===== the simulation: rows of rows, copies of arrays, casts ===== -/
def mu_as (a0 n : Nat) : List Nat := a0 :: (List.range n).map fun j => a0 + 1 + j
def mu_ws (cA comp : ClassId) (a0 n k : Nat) : va_W := (a0, .inl (cA, n, .inr (.inr (.inr (.inr (fun j => if j < n then some (a0 + 1 + j) else none)))))) :: (List.range n).map fun j => (a0 + 1 + j, .inl (comp, k, .inl fun _ => 0))
def mu_h (h0 r1 n k : Nat) : AHp := (.inl (r1, n, .inr (.inr (.inr (.inr (fun j => if j < n then some (h0 + 1 + j) else none))))) : AC) :: am_rows (7 - r1) k n
theorem mu_as_0 (a0 n : Nat) : (mu_as a0 n)[0]? = some a0 := rfl
theorem mu_as_s {a0 n j : Nat} (hj : j < n) : (mu_as a0 n)[j + 1]? = some (a0 + 1 + j) := by
  show ((List.range n).map fun j => a0 + 1 + j)[j]? = _
  rw [List.getElem?_map, List.getElem?_range hj]; rfl
theorem mu_ws_s {cA comp : ClassId} {a0 n k j : Nat} (hj : j < n) : (mu_ws cA comp a0 n k)[j + 1]? = some (a0 + 1 + j, .inl (comp, k, .inl fun _ => 0)) := by
  show ((List.range n).map fun j => ((a0 + 1 + j, .inl (comp, k, .inl fun _ => 0)) : Nat × va_E))[j]? = _
  rw [List.getElem?_map, List.getElem?_range hj]; rfl
theorem mu_len (a0 n k h0 r1 : Nat) (cA comp : ClassId) : (mu_as a0 n).length = n + 1 ∧ (mu_ws cA comp a0 n k).length = n + 1 ∧ (mu_h h0 r1 n k).length = n + 1 := by
  refine ⟨?_, ?_, ?_⟩
  · simp [mu_as]
  · simp [mu_ws]
  · simp [mu_h, am_rows]
theorem mu_RW {X : Nat → Value → Prop} {G : Nat → ClassId} {as : List Nat} {h : AHp} {ws : va_W} (R : am_RW X G as h ws) {r1 n k a0 : Nat} (hr : r1 = 6 ∨ r1 = 7) (hl : h.length + 1 + n ≤ am_SB) : am_RW X G (as ++ mu_as a0 n) (h ++ mu_h h.length r1 n k) (ws ++ mu_ws (G r1) (G (7 - r1)) a0 n k) := by
  obtain ⟨l1, l2, l3⟩ := mu_len a0 n k h.length r1 (G r1) (G (7 - r1))
  have key : ∀ i, i < n + 1 → (as ++ mu_as a0 n)[h.length + i]? = (mu_as a0 n)[i]? ∧ (ws ++ mu_ws (G r1) (G (7 - r1)) a0 n k)[h.length + i]? = (mu_ws (G r1) (G (7 - r1)) a0 n k)[i]? := by
    intro i _
    refine ⟨?_, ?_⟩
    · rw [List.getElem?_append_right (by rw [R.1]; omega), R.1, Nat.add_sub_cancel_left]
    · rw [List.getElem?_append_right (by rw [R.2.1]; omega), R.2.1, Nat.add_sub_cancel_left]
  refine ⟨by rw [List.length_append, List.length_append, R.1, l1, l3], by rw [List.length_append, List.length_append, R.2.1, l2, l3], by rw [List.length_append, l3]; omega, fun i c hi => ?_⟩
  by_cases q : i < h.length
  · rw [List.getElem?_append_left q] at hi
    obtain ⟨b, f, h1, h2, h3⟩ := R.2.2.2 i c hi
    exact ⟨b, f, am_get_app h1, by rw [List.getElem?_append_left (by rw [R.2.1]; exact q)]; exact h2, am_RC_app h3⟩
  · obtain ⟨j, rfl⟩ : ∃ j, i = h.length + j := ⟨i - h.length, by omega⟩
    rw [List.getElem?_append_right (by omega), Nat.add_sub_cancel_left] at hi
    have hj : j < n + 1 := by rw [← l3]; exact (List.getElem?_eq_some_iff.mp hi).1
    obtain ⟨k1, k2⟩ := key j hj
    cases j with
    | zero =>
      cases hi
      refine ⟨a0, _, k1.trans (mu_as_0 a0 n), k2.trans rfl, rfl, rfl, by rcases hr with rfl | rfl <;> decide, fun j => ⟨fun z => ?_, fun i z => ?_⟩⟩
      · by_cases q2 : j < n
        · dsimp only at z; rw [if_pos q2] at z; cases z
        · exact if_neg q2
      · by_cases q2 : j < n
        · dsimp only at z; rw [if_pos q2] at z
          cases z
          refine ⟨by omega, a0 + 1 + j, ?_, if_pos q2⟩
          rw [show h.length + 1 + j = h.length + (j + 1) by omega, (key (j + 1) (by omega)).1]
          exact mu_as_s q2
        · dsimp only at z; rw [if_neg q2] at z; cases z
    | succ j =>
      have hj2 : j < n := by omega
      have e : c = .inl (7 - r1, k, .inl (fun _ => 0)) := by
        have h9 : (am_rows (7 - r1) k n)[j]? = some c := hi
        unfold am_rows at h9
        rw [List.getElem?_replicate, if_pos hj2] at h9
        cases h9
        rfl
      subst e
      exact ⟨a0 + 1 + j, _, k1.trans (mu_as_s hj2), k2.trans (mu_ws_s hj2), rfl, rfl, by omega, rfl⟩
theorem mu_mem {cA comp : ClassId} {a0 n k i : Nat} {q : Nat × va_E} (h : (mu_ws cA comp a0 n k)[i]? = some q) : (i = 0 ∧ q = (a0, .inl (cA, n, .inr (.inr (.inr (.inr (fun j => if j < n then some (a0 + 1 + j) else none))))))) ∨ ∃ j, j < n ∧ i = j + 1 ∧ q = (a0 + 1 + j, .inl (comp, k, .inl fun _ => 0)) := by
  cases i with
  | zero => cases h; exact Or.inl ⟨rfl, rfl⟩
  | succ j =>
    have hj : j + 1 < n + 1 := by rw [← (mu_len a0 n k 0 0 cA comp).2.1]; exact (List.getElem?_eq_some_iff.mp h).1
    rw [mu_ws_s (by omega)] at h
    cases h
    exact Or.inr ⟨j, by omega, rfl, rfl⟩
section AMK
variable {p : Program} {l : Launch} {e : Env} {R : Room} {s : State} {m : MethodId} {args : Array Value} {below : List Frame} {meth : Method} {c : Code} {Q : State → Prop} {k : AK} {X : Nat → Value → Prop} {nL : Nat} {as0 as : List Nat} {ws : va_W} {ls : ALs} {st : List Value} {h : AHp} {ls1 : Array Slot} {st1 : List Value} {H : Heap} {locs : List Loc} {cells slots pc : Nat} {S : ASt} {cc : ByteArray} {own : String}
theorem am_nn {x : Int32} (h : 0 ≤ x.toInt) : ¬ x < 0 := by
  rw [Int32.lt_iff_toInt_lt]
  have : (0 : Int32).toInt = 0 := rfl
  omega
theorem sim_newm (hx : p.tables.exec = Jvm.exec) (hb : c.code = cc) (hown : s.vm.findClass own = some m.cls) (hK : va_K k.2.1 am_cl (am_tys k.2.2.1) s) (hz : k.1 ≤ s.heap.size) (h0 : (Jvm.Cond.arrayClass .int).before args s = true) (h1 : (Jvm.Cond.arrayClass .boolean).before args s = true) (h6 : (Jvm.Cond.arrayOver (.array .boolean)).before args s = true) (h7 : (Jvm.Cond.arrayOver (.array .int)).before args s = true) {idx r1 : Nat} (hcl : (r1 = 6 → (Jvm.Cond.classLink own idx "[[Z").before args s = true) ∧ (r1 = 7 → (Jvm.Cond.classLink own idx "[[I").before args s = true)) (hdg : decode cc pc = .ok (.multianewarray idx 2, 4))
    (hrc : cells + S.2.2.2.2.1 ≤ R.cells) (hrs : slots + S.2.2.2.2.2 ≤ R.slots) (hs : am_newm pc r1 ls st h = some S) (Rl : am_Rel k X nL s as0 as ws ls st h ls1 st1 H locs) (go : am_Go p l e R s m args below meth c Q k X nL as0 S cells slots) : W p l e R s m args below meth c H locs cells slots Q (F0 m pc ls1 st1) := by
  unfold am_newm at hs
  split at hs
  · next kk n r =>
    split at hs
    · next hc =>
      obtain ⟨hlen, ⟨hn0, hn1⟩, ⟨hk0, hk1⟩, hr⟩ := hc
      cases hs
      obtain ⟨⟨t, ht⟩, hl, hst, hw, hP, hD, hS⟩ := Rl
      obtain ⟨r', rfl, hst'⟩ := am_RS_int hst
      obtain ⟨r2, rfl, hst2⟩ := am_RS_int hst'
      have hc0 : n.toNatClampNeg = n.toInt.toNat := rfl
      have hc1 : kk.toNatClampNeg = kk.toInt.toNat := rfl
      have G6 := (hK.2 6 _ (am_tys_at (G := k.2.2.1) (t := 6) (by decide))).2
      have G7 := (hK.2 7 _ (am_tys_at (G := k.2.2.1) (t := 7) (by decide))).2
      have G0 := (hK.2 0 _ (am_tys_at (G := k.2.2.1) (t := 0) (by decide))).2
      have G1 := (hK.2 1 _ (am_tys_at (G := k.2.2.1) (t := 1) (by decide))).2
      have fin : ∀ (cA comp : ClassId) (H1 : Heap) (dv : Value), dv = .int 0 → cA = k.2.2.1 r1 → comp = k.2.2.1 (7 - r1) → H1.size = H.size + 1 + n.toNatClampNeg → (∀ q : Nat, q < H.size → H1[q]? = H[q]?) → H1[H.size]? = some (arrV cA n.toNatClampNeg (mu_refs H.size n.toNatClampNeg)) → (∀ j, j < n.toNatClampNeg → H1[H.size + 1 + j]? = some (arrV comp kk.toNatClampNeg (fun _ => dv))) →
          W p l e R s m args below meth c H1 (locs ++ (List.range n.toNatClampNeg).map fun j => ⟨H.size, j⟩) (cells + (1 + n.toNatClampNeg)) (slots + (n.toNatClampNeg + n.toNatClampNeg * kk.toNatClampNeg)) Q (F0 m (pc + 4) ls1 (.ref H.size :: r2)) := by
        intro cA comp H1 dv hdv e1 e2 f1 f2 f3 f4
        subst hdv e1 e2
        have hkq : ∀ (i : Nat) (q : Nat × va_E), ws[i]? = some q → H1[q.1]? = H[q.1]? := fun i q hq => f2 q.1 ((hP i q hq).lt)
        refine go (as ++ mu_as H.size n.toNatClampNeg) (ws ++ mu_ws (k.2.2.1 r1) (k.2.2.1 (7 - r1)) H.size n.toNatClampNeg kk.toNatClampNeg) ls1 (.ref H.size :: r2) H1 _ ⟨⟨t ++ mu_as H.size n.toNatClampNeg, by rw [ht, List.append_assoc]⟩, am_RL_app hl, ⟨am_RV_mk (by omega) ?_, am_RS_app hst2⟩, mu_RW hw hr (by omega), (hP.kept hkq).app (fun i q hq => ?_), hD.app ⟨fun i j p q hi hj hpq => ?_, fun i q hq => ?_⟩ (fun i j p q hi hj hpq => ?_), Nat.le_trans hS.1 (by omega), fun x h1 h2 => (f2 x (Nat.lt_of_lt_of_le h1 hS.1)).trans (hS.2.1 x h1 h2), fun z hz1 => ?_⟩
        · rw [List.getElem?_append_right (by rw [hw.1]; exact Nat.le_refl _), hw.1, Nat.sub_self]; rfl
        · rcases mu_mem hq with ⟨rfl, rfl⟩ | ⟨j, hj, rfl, rfl⟩
          · show H1[H.size]? = some (vp_cell _ _)
            rw [vp_cell_q, f3]
            congr 2
            funext j
            unfold mu_refs
            by_cases q : j < n.toNatClampNeg
            · rw [if_pos q, if_pos q]; rfl
            · rw [if_neg q, if_neg q]; rfl
          · show H1[H.size + 1 + j]? = some (vp_cell _ _)
            rw [vp_cell_i]
            exact f4 j hj
        · rcases mu_mem hi with ⟨rfl, rfl⟩ | ⟨i, hi, rfl, rfl⟩ <;> rcases mu_mem hj with ⟨rfl, rfl⟩ | ⟨j, hj, rfl, rfl⟩
          · rfl
          · dsimp only at hpq; omega
          · dsimp only at hpq; omega
          · dsimp only at hpq; omega
        · have hH : k.1 ≤ H.size := Nat.le_trans hz hS.1
          rcases mu_mem hq with ⟨rfl, rfl⟩ | ⟨j, hj, rfl, rfl⟩
          · exact hH
          · show k.1 ≤ H.size + 1 + j; omega
        · have hlt := (hP i p hi).lt
          rcases mu_mem hj with ⟨rfl, rfl⟩ | ⟨j, hj, rfl, rfl⟩
          · dsimp only at hpq; omega
          · dsimp only at hpq; omega
        · rcases List.mem_append.mp hz1 with q | q
          · exact hS.2.2 z q
          · obtain ⟨j, -, rfl⟩ := List.mem_map.mp q
            exact Nat.le_trans hz hS.1
      rcases hr with rfl | rfl
      · exact mu_row2 (ty := .boolean) hx hb hown (hcl.1 rfl) h6 h1 hdg (am_nn hn0) (am_nn hk0) (by omega) (by omega) (by decide) rfl rfl hrc hrs (fun cA comp kA kC c2 H1 g1 g2 g3 g4 g5 g6 f1 f2 f3 f4 => fin cA comp H1 _ rfl (Option.some.inj (g1.symm.trans G6)) (Option.some.inj (g2.symm.trans G1)) f1 f2 f3 f4)
      · exact mu_row2 (ty := .int) hx hb hown (hcl.2 rfl) h7 h0 hdg (am_nn hn0) (am_nn hk0) (by omega) (by omega) (by decide) rfl rfl hrc hrs (fun cA comp kA kC c2 H1 g1 g2 g3 g4 g5 g6 f1 f2 f3 f4 => fin cA comp H1 _ rfl (Option.some.inj (g1.symm.trans G7)) (Option.some.inj (g2.symm.trans G0)) f1 f2 f3 f4)
    · cases hs
  · cases hs
theorem am_nmA {t : Nat} {ad : String} (hK : va_K k.2.1 am_cl (am_tys k.2.2.1) s) (ht : t < 3) (he : "[" ++ (am_el t).toString = ad) : s.vm.findClass ad = some (k.2.2.1 t) := by
  subst he
  have h := (hK.2 t _ (am_tys_at (G := k.2.2.1) (t := t) (by omega))).2
  match t, ht, h with
  | 0, _, h => exact h
  | 1, _, h => exact h
  | 2, _, h => exact h
theorem sim_clone {t : Nat} {ad : String} (ht : t = 0 ∧ ad = "[I" ∨ t = 2 ∧ ad = "[B") (hx : p.tables.exec = Jvm.exec) (hb : c.code = cc) (hml : c.maxLocals = nL) (hown : s.vm.findClass own = some m.cls) (hK : va_K k.2.1 am_cl (am_tys k.2.2.1) s) (hz : k.1 ≤ s.heap.size) (hXo : am_Xok X) {idx : Nat}
    (h1 : (Jvm.Cond.methodLink own idx ⟨ad, "clone", "()Ljava/lang/Object;"⟩).before args s = true) (h2 : (Jvm.Cond.sameMethod ad "java/lang/Object" "clone" "()Ljava/lang/Object;").before args s = true) (h3 : (Jvm.Cond.native ⟨"java/lang/Object", "clone", "()Ljava/lang/Object;"⟩).before args s = true) (h4 : (Jvm.Cond.instanceMethod ⟨"java/lang/Object", "clone", "()Ljava/lang/Object;"⟩).before args s = true)
    (h5 : (Jvm.Cond.selects ad ⟨ad, "clone", "()Ljava/lang/Object;"⟩ ⟨"java/lang/Object", "clone", "()Ljava/lang/Object;"⟩).before args s = true) (h6 : va_Nw (.castable ad "java/lang/Cloneable") s) (hdg : decode cc pc = .ok (.invokevirtual idx, 3)) (hf : 1 ≤ R.frames) (hlo : 8 + 14 ≤ R.locals)
    (hrc : cells + S.2.2.2.2.1 ≤ R.cells) (hrs : slots + S.2.2.2.2.2 ≤ R.slots) (hs : am_clone t pc ls st h = some S) (Rl : am_Rel k X nL s as0 as ws ls st h ls1 st1 H locs) (go : am_Go p l e R s m args below meth c Q k X nL as0 S cells slots) : W p l e R s m args below meth c H locs cells slots Q (F0 m pc ls1 st1) := by
  unfold am_clone at hs
  split at hs
  · next a r =>
    split at hs
    · next hc =>
      obtain ⟨ha, hlen, hsum⟩ := hc
      split at hs
      · next u n f hcell =>
        split at hs
        · next hu =>
          obtain ⟨rfl, hu⟩ := hu
          cases hs
          obtain ⟨⟨t0, ht0⟩, hl, hst, hw, hP, hD, hS⟩ := Rl
          obtain ⟨q, r', hq, rfl, hst'⟩ := am_RS_ref hst ha
          obtain ⟨e9, hg, hrc9⟩ := am_RW_get hw hcell hq
          rcases e9 with ⟨cA, mm, bb⟩ | ⟨cj, gs⟩
          · obtain ⟨rfl, rfl, ht5, hra⟩ := hrc9
            rcases bb with g | g | g | g | g <;> try exact hra.elim
            obtain rfl : f = g := hra
            have hnm : s.vm.findClass ad = some (k.2.2.1 u) := by
              rcases ht with ⟨rfl, rfl⟩ | ⟨rfl, rfl⟩
              · exact am_nmA hK (by decide) rfl
              · exact am_nmA hK (by decide) rfl
            have hfit : ∀ (i : Nat) (v : Value), (vp_cell (k.2.2.1 u) (n, .inl f)).slots[i]? = some v → fits (am_el u) v = true := by
              intro i v hv
              rw [vp_cell_i] at hv
              have hi : i < n := by
                have := (Array.getElem?_eq_some_iff.mp hv).1
                rwa [arrV_size] at this
              rw [arrV_read _ _ hi] at hv
              cases hv
              rcases hu with rfl | ⟨rfl, hu⟩
              · rfl
              · rw [← hu i hi]; exact pk_fb _
            refine va_clone (A := am_A k) (t0 := u) (ty := am_el u) (x := (n, .inl f)) hx hb (by rw [hml]; exact hl.1.symm) hown h1 h2 h3 h4 h5 h6 hK hP hD hS (fun q hq => Nat.le_trans hz hq) a hg (am_tys_at ht5) hnm hfit hf ?_ hrc hrs hdg (fun q H1 hK1 hP1 hD1 hS1 => ?_)
            · rw [am_RS_cat hXo hst']; omega
            · exact go (as ++ [q]) _ ls1 (.ref q :: r') H1 locs ⟨⟨t0 ++ [q], by rw [ht0, List.append_assoc]⟩, am_RL_app hl, ⟨am_RV_mk hlen (by rw [List.getElem?_append_right (by rw [hw.1]; exact Nat.le_refl _), hw.1, Nat.sub_self]; rfl), am_RS_app hst'⟩, am_RW_push hw hlen (am_RC_arr (b := .inl f) ht5 rfl), hP1, hD1, hS1⟩
          · exact hrc9.elim
        · cases hs
      · cases hs
    · cases hs
  · cases hs
theorem sim_cast (hx : p.tables.exec = Jvm.exec) (hb : c.code = cc) (hown : s.vm.findClass own = some m.cls) (hK : va_K k.2.1 am_cl (am_tys k.2.2.1) s) {idx r1 : Nat} (hcl : (r1 = 7 → (Jvm.Cond.classLink own idx "PebbleProofsLaw$Yard").before args s = true) ∧ (r1 = 100 → (Jvm.Cond.classLink own idx "[I").before args s = true) ∧ (r1 = 102 → (Jvm.Cond.classLink own idx "[B").before args s = true)) (hdg : decode cc pc = .ok (.checkcast idx, 3))
    (hs : am_cast pc r1 ls st h = some S) (Rl : am_Rel k X nL s as0 as ws ls st h ls1 st1 H locs) (go : am_Go p l e R s m args below meth c Q k X nL as0 S cells slots) : W p l e R s m args below meth c H locs cells slots Q (F0 m pc ls1 st1) := by
  unfold am_cast at hs
  split at hs
  · next a r =>
    split at hs
    · next ha =>
      obtain ⟨t, hl, hst, hw, hP, hD, hS⟩ := Rl
      obtain ⟨q, r', hq, rfl, hst'⟩ := am_RS_ref hst ha
      split at hs
      · next ci fs hcell =>
        split at hs
        · next hci =>
          obtain ⟨rfl, rfl⟩ := hci
          cases hs
          obtain ⟨e9, hg, hrc9⟩ := am_RW_get hw hcell hq
          rcases e9 with ⟨cA, mm, bb⟩ | ⟨cj, gs⟩
          · exact hrc9.elim
          · obtain ⟨rfl, -⟩ := hrc9
            exact va_castS (cC := k.2.1.1 7) hx hb hown (hcl.1 rfl) (hK.1 7 _ rfl).2 (va_recv hK hP rfl hg) hdg (go as ws ls1 _ H locs ⟨t, hl, ⟨am_RV_mk ha hq, hst'⟩, hw, hP, hD, hS⟩)
        · cases hs
      · next u n f hcell =>
        split at hs
        · next hu =>
          obtain ⟨rfl, hu⟩ := hu
          cases hs
          obtain ⟨e9, hg, hrc9⟩ := am_RW_get hw hcell hq
          rcases e9 with ⟨cA, mm, bb⟩ | ⟨cj, gs⟩
          · obtain ⟨rfl, rfl, ht5, hra⟩ := hrc9
            rcases hu with rfl | rfl
            · exact va_castA hx hb hown (hcl.2.1 rfl) hP a hg (am_nmA hK (by decide) rfl) hdg (go as ws ls1 _ H locs ⟨t, hl, ⟨am_RV_mk ha hq, hst'⟩, hw, hP, hD, hS⟩)
            · exact va_castA hx hb hown (hcl.2.2 rfl) hP a hg (am_nmA hK (by decide) rfl) hdg (go as ws ls1 _ H locs ⟨t, hl, ⟨am_RV_mk ha hq, hst'⟩, hw, hP, hD, hS⟩)
          · exact hrc9.elim
        · cases hs
      · cases hs
    · cases hs
  · cases hs
end AMK
