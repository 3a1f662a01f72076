/-! ===== the simulation: reads and writes of fields, arrays, texts, the script ===== -/
/-- where a row of bytes outside lies -/
def am_oad (k : AK) (a : Nat) : Nat := if am_isB a then k.2.2.2.2 ((a - (am_SB + 10)) / 2) else k.2.2.2.2 (100 + (a - (am_SB + 2)))
/-- the texts: objects with their bytes; the rows of bytes outside; the empty row of Objects -/
def am_Str (k : AK) (s : State) (H : Heap) : Prop := (∀ i, i < am_nt → va_O "java/lang/String" (k.2.2.2.1 i) (am_A k) s H ∧ va_OF "java/lang/String" "coder" "B" (.int 0) (k.2.2.2.1 i) (am_A k) s H ∧ va_OF "java/lang/String" "value" "[B" (.ref (k.2.2.2.2 i)) (k.2.2.2.1 i) (am_A k) s H) ∧ (∀ a n f, am_oa a = some (n, f) → va_T .byte (am_oad k a) n (fun j => .int (f j)) (am_A k) s H) ∧ va_T (.object "java/lang/Object") (k.2.2.2.2 100) 0 (fun _ => .null) (am_A k) s H
theorem am_nt_eq : am_nt = 27 := rfl
theorem am_X_txt {k : AK} {b a : Nat} {w : Value} (hT : am_isT a) (h : am_X k b a w) : w = .ref (k.2.2.2.1 ((a - (am_SB + 10)) / 2)) := by
  obtain ⟨h1, h2, -⟩ := hT
  unfold am_X at h
  rw [if_neg (by omega), if_neg (by omega), if_neg (by omega), if_pos h1] at h
  exact h
theorem am_oa_in {a n : Nat} {f : Nat → Int32} (h : am_oa a = some (n, f)) : am_isB a ∨ a = am_SB + 3 ∨ a = am_SB + 4 := by
  unfold am_oa at h
  split at h
  · next q => exact Or.inl q
  · split at h
    · next q => exact Or.inr (Or.inl q)
    · split at h
      · next q => exact Or.inr (Or.inr q)
      · cases h
theorem am_oa_not {a n : Nat} {f : Nat → Int32} (h : am_oa a = some (n, f)) : ¬ a < am_SB ∧ ¬ a = am_SB ∧ ¬ a = am_SB + 1 ∧ ¬ a = am_SB + 2 := by
  rcases am_oa_in h with ⟨h1, h2, h3⟩ | rfl | rfl <;> omega
theorem am_X_oa {k : AK} {b a n : Nat} {f : Nat → Int32} {w : Value} (ho : am_oa a = some (n, f)) (h : am_X k b a w) : w = .ref (am_oad k a) := by
  unfold am_X at h
  unfold am_oad
  rcases am_oa_in ho with ⟨h1, h2, h3⟩ | q
  · rw [if_neg (by omega), if_neg (by omega), if_neg (by omega), if_neg (by omega)] at h
    rw [if_pos ⟨h1, h2, h3⟩]
    exact h
  · rw [if_neg (by omega), if_neg (by omega), if_pos (by omega)] at h
    rw [if_neg (fun z => by obtain ⟨z1, z2, z3⟩ := z; omega)]
    exact h
theorem am_X_mktxt {k : AK} {b i : Nat} : am_X k b (am_SB + 10 + 2 * i) (.ref (k.2.2.2.1 i)) := by
  unfold am_X
  rw [if_neg (by omega), if_neg (by omega), if_neg (by omega), if_pos (by omega), show (am_SB + 10 + 2 * i - (am_SB + 10)) / 2 = i by omega]
theorem am_X_mkbyt {k : AK} {b a : Nat} (hT : am_isT a) : am_X k b (a + 1) (.ref (k.2.2.2.2 ((a - (am_SB + 10)) / 2))) := by
  obtain ⟨h1, h2, -⟩ := hT
  unfold am_X
  rw [if_neg (by omega), if_neg (by omega), if_neg (by omega), if_neg (by omega), show (a + 1 - (am_SB + 10)) / 2 = (a - (am_SB + 10)) / 2 by omega]
theorem am_X_stat {k : AK} {b i : Nat} (hi : i < 3) : am_X k b (am_SB + 2 + i) (.ref (k.2.2.2.2 (100 + i))) := by
  unfold am_X
  rw [if_neg (by omega), if_neg (by omega), if_pos (by omega), show 100 + (am_SB + 2 + i - (am_SB + 2)) = 100 + i by omega]
theorem am_nt_lt {a : Nat} (h : am_isT a) : (a - (am_SB + 10)) / 2 < am_nt := by
  obtain ⟨h1, h2, h3⟩ := h
  rw [am_nt_eq]
  omega
theorem am_tx_fit : ∀ i, i < 27 → ∀ j, j < (am_tx i).length → fits .byte (.int ((am_tx i).getD j 0)) = true := by decide +kernel
theorem am_d_fit : ∀ j, j < 100 → fits .byte (.int (am_d1 j)) = true ∧ fits .byte (.int (am_dt j)) = true := by decide +kernel
theorem am_oa_fit {a n : Nat} {f : Nat → Int32} (h : am_oa a = some (n, f)) : ∀ j, j < n → fits .byte (.int (f j)) = true := by
  intro j hj
  unfold am_oa at h
  split at h
  · next q =>
    cases h
    obtain ⟨h1, h2, h3⟩ := q
    exact am_tx_fit _ (by omega) j hj
  · split at h
    · cases h; exact (am_d_fit j hj).1
    · split at h
      · cases h; exact (am_d_fit j hj).2
      · cases h
theorem am_X_scr {k : AK} {b : Nat} {w : Value} (h : am_X k b am_SB w) : w = .ref b := by
  unfold am_X at h
  rw [if_pos rfl] at h
  exact h
section AMR
variable {p : Program} {l : Launch} {e : Env} {R : Room} {s : State} {m : MethodId} {args : Array Value} {below : List Frame} {meth : Method} {c : Code} {Q : State → Prop} {k : AK} {b nL : Nat} {as0 as : List Nat} {ws : va_W} {ls : ALs} {st : List Value} {h : AHp} {ls1 : Array Slot} {st1 : List Value} {H : Heap} {locs : List Loc} {cells slots pc : Nat} {S : ASt} {cc : ByteArray} {own : String}
/-- a cell of the world, on both sides -/
theorem am_obj_at {X : Nat → Value → Prop} {i : Nat} {ci : Nat} {fs : List Value} {a : Nat} (hw : am_RW X k.2.2.1 as h ws) (hc : h[i]? = some (.inr (ci, fs))) (ha : as[i]? = some a) : ∃ gs, ws[i]? = some (a, .inr (ci, gs)) ∧ am_RS X as fs gs := by
  obtain ⟨e, h1, h2⟩ := am_RW_get hw hc ha
  rcases e with ⟨cA, mm, bb⟩ | ⟨cj, gs⟩
  · exact h2.elim
  · obtain ⟨rfl, h3⟩ := h2
    exact ⟨gs, h1, h3⟩
theorem am_arr_at {X : Nat → Value → Prop} {i : Nat} {t n : Nat} {f : AVc} {a : Nat} (hw : am_RW X k.2.2.1 as h ws) (hc : h[i]? = some (.inl (t, n, f))) (ha : as[i]? = some a) : ∃ g, ws[i]? = some (a, .inl (k.2.2.1 t, n, g)) ∧ t < 8 ∧ am_RA as f g := by
  obtain ⟨e, h1, h2⟩ := am_RW_get hw hc ha
  rcases e with ⟨cA, mm, bb⟩ | ⟨cj, gs⟩
  · obtain ⟨rfl, rfl, h3, h4⟩ := h2
    exact ⟨bb, h1, h3, h4⟩
  · exact h2.elim
theorem sim_get (hx : p.tables.exec = Jvm.exec) (hb : c.code = cc) (hts : ∀ w ∈ am_T, w.before args s = true) (hown : s.vm.findClass own = some m.cls) (hK : va_K k.2.1 am_cl (am_tys k.2.2.1) s) (hstr : am_Str k s s.heap) {idx r1 r2 : Nat} (hdg : decode cc pc = .ok (.getfield idx, 3))
    (hf : ∀ C T N, am_cl[r1]? = some (C, T, N) → r2 < N ∧ ((∃ ref, Jvm.Cond.fieldLink own idx ref (T r2).2.1 (T r2).2.2.1 ∈ am_T ∧ (ref = (T r2).1 ∨ Jvm.Cond.sameField ref (T r2).1 (T r2).2.1 (T r2).2.2.1 ∈ am_T)) ∨ (∃ host, va_Nw (.fieldLinkNest own idx (T r2).1 (T r2).2.1 (T r2).2.2.1 host) s)))
    (hf8 : r1 = 8 → Jvm.Cond.fieldLink own idx "java/lang/String" (am_T8 r2).2.1 (am_T8 r2).2.2.1 ∈ am_T)
    (hs : am_get pc r1 r2 ls st h = some S) (Rl : am_Rel k (am_X k b) nL s as0 as ws ls st h ls1 st1 H locs) (go : am_Go p l e R s m args below meth c Q k (am_X k b) nL as0 S cells slots) : W p l e R s m args below meth c H locs cells slots Q (F0 m pc ls1 st1) := by
  unfold am_get at hs
  split at hs
  · next a r =>
    obtain ⟨t, hl, hst, hw, hP, hD, hS⟩ := Rl
    split at hs
    · next ha =>
      obtain ⟨q, r', hq, rfl, hst'⟩ := am_RS_ref hst ha
      split at hs
      · next ci fs hcell =>
        split at hs
        · next hci =>
          subst hci
          split at hs
          · next v hv =>
            cases hs
            obtain ⟨gs, hg, hrs⟩ := am_obj_at hw hcell hq
            obtain ⟨w, hw1, hw2⟩ := am_RS_get hrs hv
            obtain ⟨⟨C, T, N⟩, hcl⟩ := am_P_cl hP hg
            have nxt : W p l e R s m args below meth c H locs cells slots Q (F0 m (pc + 3) ls1 (w :: r')) := go as ws ls1 (w :: r') H locs ⟨t, hl, ⟨hw2, hst'⟩, hw, hP, hD, hS⟩
            obtain ⟨hk, ⟨ref, hlk, hrf⟩ | ⟨host, hlk⟩⟩ := hf C T N hcl
            · refine va_get (ref := ref) hx hb hts (am_ws_in hcl) hown hK hP a hg hcl r2 hk (hts _ hlk) (fun x hx => ?_) hw1 hdg nxt
              rcases hrf with rfl | hrf
              · exact hx
              · exact u_same (hts _ hrf) x hx
            · exact va_getN (host := host) (ref := (T r2).1) hx hb hts (am_ws_in hcl) hown hK hP a hg hcl r2 hk (va_Nw.use rfl hlk) (fun x hx => hx) hw1 hdg nxt
          · cases hs
        · cases hs
      · cases hs
    · next ha =>
      obtain ⟨w, r', rfl, hw0, hst'⟩ := am_RS_cons hst
      have hX := am_RV_ext hw0 ha
      split at hs
      · next hq =>
        obtain ⟨hT, rfl⟩ := hq
        have hw1 := am_X_txt hT hX
        subst hw1
        obtain ⟨-, h2, h3⟩ := hstr.1 ((a - (am_SB + 10)) / 2) (am_nt_lt hT)
        split at hs
        · cases hs
          exact vk_getf hx hb h3 hS hown (hts _ (hf8 rfl)) (fun x hx => hx) hdg (go as ws ls1 _ H locs ⟨t, hl, ⟨am_RV_mkx (by have := hT.2.1; omega) (am_X_mkbyt hT), hst'⟩, hw, hP, hD, hS⟩)
        · cases hs
          exact vk_getf hx hb h2 hS hown (hts _ (hf8 rfl)) (fun x hx => hx) hdg (go as ws ls1 _ H locs ⟨t, hl, ⟨rfl, hst'⟩, hw, hP, hD, hS⟩)
        · cases hs
      · cases hs
  · cases hs
theorem sim_put (hx : p.tables.exec = Jvm.exec) (hb : c.code = cc) (hts : ∀ w ∈ am_T, w.before args s = true) (hown : s.vm.findClass own = some m.cls) (hK : va_K k.2.1 am_cl (am_tys k.2.2.1) s) {idx r1 r2 : Nat} (hdg : decode cc pc = .ok (.putfield idx, 3))
    (hf : ∀ C T N, am_cl[r1]? = some (C, T, N) → r2 < N ∧ (∃ ref, Jvm.Cond.fieldLink own idx ref (T r2).2.1 (T r2).2.2.1 ∈ am_T ∧ (ref = (T r2).1 ∨ Jvm.Cond.sameField ref (T r2).1 (T r2).2.1 (T r2).2.2.1 ∈ am_T)) ∧ ((T r2).2.2.2 = false ∨ ((T r2).2.2.2 = true ∧ meth.name = "<init>" ∧ (T r2).1 = own)))
    (hs : am_put pc r1 r2 ls st h = some S) (Rl : am_Rel k (am_X k b) nL s as0 as ws ls st h ls1 st1 H locs) (go : am_Go p l e R s m args below meth c Q k (am_X k b) nL as0 S cells slots) : W p l e R s m args below meth c H locs cells slots Q (F0 m pc ls1 st1) := by
  unfold am_put at hs
  split at hs
  · next v a r =>
    obtain ⟨t, hl, hst, hw, hP, hD, hS⟩ := Rl
    split at hs
    · next ha =>
      obtain ⟨u, r0, rfl, hu, hst0⟩ := am_RS_cons hst
      obtain ⟨q, r', hq, rfl, hst'⟩ := am_RS_ref hst0 ha
      split at hs
      · next ci fs hcell =>
        split at hs
        · next hci =>
          obtain ⟨rfl, hlen, hfit, hnar, hne⟩ := hci
          cases hs
          obtain ⟨gs, hg, hrs⟩ := am_obj_at hw hcell hq
          obtain ⟨⟨C, T, N⟩, hcl⟩ := am_P_cl hP hg
          obtain ⟨hk, ⟨ref, hlk, hrf⟩, hfin⟩ := hf C T N hcl
          have hsm : ∀ x, s.fieldFound? (T r2).1 (T r2).2.1 (T r2).2.2.1 = some x → s.fieldFound? ref (T r2).2.1 (T r2).2.2.1 = some x := by
            intro x hx
            rcases hrf with rfl | hrf
            · exact hx
            · exact u_same (hts _ hrf) x hx
          obtain ⟨hfit', hnar'⟩ := am_fits (am_X_ref k b) hu hne hfit hnar
          have hgl : r2 < gs.length := by rw [am_RS_len hrs]; exact hlen
          have nxt : ∀ (H1 : Heap) (locs1 : List Loc), va_P k.2.1 am_cl (ws.set a (q, .inr (ci, gs.set r2 u))) H1 → va_D (am_A k) (ws.set a (q, .inr (ci, gs.set r2 u))) → va_S (am_A k) s.heap H1 locs1 → W p l e R s m args below meth c H1 locs1 cells slots Q (F0 m (pc + 3) ls1 r') :=
            fun H1 locs1 hP1 hD1 hS1 => go as (ws.set a (q, .inr (ci, gs.set r2 u))) ls1 r' H1 locs1 ⟨t, hl, hst', am_RW_set hw hq (am_RC_obj (am_RS_set r2 hrs hu)), hP1, hD1, hS1⟩
          rcases hfin with hfin | ⟨hfin, hnm, hdc⟩
          · exact va_put (ref := ref) hx hb hts (am_ws_in hcl) (am_ft ci) (am_ty_ok hcl) (am_nm_ok hcl) hown hK hP hD hS a hg hcl r2 hk (hts _ hlk) hsm hfin (am_ty_ok hcl r2 hk) hnar' hfit' hgl hdg nxt
          · exact va_putF (ref := ref) hx hb hts (am_ws_in hcl) (am_ft ci) (am_ty_ok hcl) (am_nm_ok hcl) hown hK hP hD hS a hg hcl r2 hk (hts _ hlk) hsm hfin hnm hdc (am_ty_ok hcl r2 hk) hnar' hfit' hgl hdg nxt
        · cases hs
      · cases hs
    · cases hs
  · cases hs
theorem sim_static (hx : p.tables.exec = Jvm.exec) (hb : c.code = cc) (hts : ∀ w ∈ am_T, w.before args s = true) (hown : s.vm.findClass own = some m.cls) (hz1 : va_Z "java/lang/String" "COMPACT_STRINGS" "Z" (.int 1) (am_A k) s s.heap) (hz2 : va_Zq "jdk/internal/util/Preconditions" "SIOOBE_FORMATTER" "Ljava/util/function/BiFunction;" (am_A k) s s.heap)
    (hz3 : va_Z "java/util/ArrayList" "DEFAULTCAPACITY_EMPTY_ELEMENTDATA" "[Ljava/lang/Object;" (.ref (k.2.2.2.2 100)) (am_A k) s s.heap) (hz4 : va_Z "java/lang/Integer" "DigitOnes" "[B" (.ref (k.2.2.2.2 101)) (am_A k) s s.heap) (hz5 : va_Z "java/lang/Integer" "DigitTens" "[B" (.ref (k.2.2.2.2 102)) (am_A k) s s.heap) {idx r1 : Nat} (hdg : decode cc pc = .ok (.getstatic idx, 3))
    (h0 : r1 = 0 → Jvm.Cond.fieldLink own idx "java/lang/String" "COMPACT_STRINGS" "Z" ∈ am_T) (h1 : r1 = 1 → Jvm.Cond.fieldLink own idx "jdk/internal/util/Preconditions" "SIOOBE_FORMATTER" "Ljava/util/function/BiFunction;" ∈ am_T) (h2 : r1 = 2 → Jvm.Cond.fieldLink own idx "java/util/ArrayList" "DEFAULTCAPACITY_EMPTY_ELEMENTDATA" "[Ljava/lang/Object;" ∈ am_T) (h3 : r1 = 3 → Jvm.Cond.fieldLink own idx "java/lang/Integer" "DigitOnes" "[B" ∈ am_T) (h4 : r1 = 4 → Jvm.Cond.fieldLink own idx "java/lang/Integer" "DigitTens" "[B" ∈ am_T)
    (hs : am_static pc r1 ls st h = some S) (Rl : am_Rel k (am_X k b) nL s as0 as ws ls st h ls1 st1 H locs) (go : am_Go p l e R s m args below meth c Q k (am_X k b) nL as0 S cells slots) : W p l e R s m args below meth c H locs cells slots Q (F0 m pc ls1 st1) := by
  unfold am_static at hs
  obtain ⟨t, hl, hst, hw, hP, hD, hS⟩ := Rl
  split at hs
  · cases hs
    exact va_gets hx hb hz1 hS hown (hts _ (h0 rfl)) (fun x hx => hx) hdg (go as ws ls1 _ H locs ⟨t, hl, ⟨rfl, hst⟩, hw, hP, hD, hS⟩)
  · cases hs
    have hxx : ∀ w : Value, (w = .null ∨ ∃ a, w = .ref a) → am_RV (am_X k b) as (.ref (am_SB + 1)) w := fun w hw => am_RV_mkx (by omega) (by unfold am_X; rw [if_neg (by omega), if_pos rfl]; exact hw)
    rcases hz2 with hz | ⟨a, hz⟩
    · exact va_gets hx hb hz hS hown (hts _ (h1 rfl)) (fun x hx => hx) hdg (go as ws ls1 _ H locs ⟨t, hl, ⟨hxx _ (Or.inl rfl), hst⟩, hw, hP, hD, hS⟩)
    · exact va_gets hx hb hz hS hown (hts _ (h1 rfl)) (fun x hx => hx) hdg (go as ws ls1 _ H locs ⟨t, hl, ⟨hxx _ (Or.inr ⟨a, rfl⟩), hst⟩, hw, hP, hD, hS⟩)
  · cases hs
    exact va_gets hx hb hz3 hS hown (hts _ (h2 rfl)) (fun x hx => hx) hdg (go as ws ls1 _ H locs ⟨t, hl, ⟨am_RV_mkx (by omega) (am_X_stat (i := 0) (by decide)), hst⟩, hw, hP, hD, hS⟩)
  · cases hs
    exact va_gets hx hb hz4 hS hown (hts _ (h3 rfl)) (fun x hx => hx) hdg (go as ws ls1 _ H locs ⟨t, hl, ⟨am_RV_mkx (by omega) (am_X_stat (i := 1) (by decide)), hst⟩, hw, hP, hD, hS⟩)
  · cases hs
    exact va_gets hx hb hz5 hS hown (hts _ (h4 rfl)) (fun x hx => hx) hdg (go as ws ls1 _ H locs ⟨t, hl, ⟨am_RV_mkx (by omega) (am_X_stat (i := 2) (by decide)), hst⟩, hw, hP, hD, hS⟩)
  · cases hs
theorem sim_ldc (hx : p.tables.exec = Jvm.exec) (hb : c.code = cc) (hts : ∀ w ∈ am_T, w.before args s = true) (hown : s.vm.findClass own = some m.cls) (hvk : ∀ q ∈ am_sr, vk_R q.1 q.2.1 (am_txs q.2.2) (k.2.2.2.1 q.2.2) s) {idx r1 r2 : Nat} (hdg : decode cc pc = .ok (.ldc idx, 2))
    (h0 : r1 = 0 → Jvm.Cond.constant own idx (Int32.ofNat r2) ∈ am_T) (h1 : r1 = 1 → (own, idx, r2) ∈ am_sr)
    (hs : am_ldc 2 pc r1 r2 ls st h = some S) (Rl : am_Rel k (am_X k b) nL s as0 as ws ls st h ls1 st1 H locs) (go : am_Go p l e R s m args below meth c Q k (am_X k b) nL as0 S cells slots) : W p l e R s m args below meth c H locs cells slots Q (F0 m pc ls1 st1) := by
  unfold am_ldc at hs
  obtain ⟨t, hl, hst, hw, hP, hD, hS⟩ := Rl
  split at hs
  · cases hs
    exact lv_ldc hx hb hown (hts _ (h0 rfl)) hdg (go as ws ls1 _ H locs ⟨t, hl, ⟨rfl, hst⟩, hw, hP, hD, hS⟩)
  · cases hs
    exact va_ldcS hx hb hown (hvk _ (h1 rfl)) hdg (go as ws ls1 _ H locs ⟨t, hl, ⟨am_RV_mkx (by omega) am_X_mktxt, hst⟩, hw, hP, hD, hS⟩)
  · cases hs
theorem lv_ldcwS {tx : String} {index q : Nat} {ls : Array Slot} {rest : List Value} (hexec : p.tables.exec = Jvm.exec) (hb : c.code = cc) (hown : s.vm.findClass own = some m.cls) (hZ : vk_R own index tx q s) (hdg : decode cc pc = .ok (.ldc_w index, 3))
    (kk : W p l e R s m args below meth c H locs cells slots Q (F0 m (pc + 3) ls (.ref q :: rest))) : W p l e R s m args below meth c H locs cells slots Q (F0 m pc ls rest) := by
  intro T hT X
  obtain ⟨t, a1, b1⟩ := kk T hT X
  exact ⟨t, X.ldcStringW hexec hown (text := tx) (a := q) hZ.1 hZ.2 (g := F0 m pc ls rest) rfl (by rw [hb]; exact hdg) t a1, b1⟩
theorem sim_ldcw (hx : p.tables.exec = Jvm.exec) (hb : c.code = cc) (hts : ∀ w ∈ am_T, w.before args s = true) (hown : s.vm.findClass own = some m.cls) (hvk : ∀ q ∈ am_sr, vk_R q.1 q.2.1 (am_txs q.2.2) (k.2.2.2.1 q.2.2) s) {idx r1 r2 : Nat} (hdg : decode cc pc = .ok (.ldc_w idx, 3))
    (h0 : r1 = 0 → Jvm.Cond.constant own idx (Int32.ofNat r2) ∈ am_T) (h1 : r1 = 1 → (own, idx, r2) ∈ am_sr)
    (hs : am_ldc 3 pc r1 r2 ls st h = some S) (Rl : am_Rel k (am_X k b) nL s as0 as ws ls st h ls1 st1 H locs) (go : am_Go p l e R s m args below meth c Q k (am_X k b) nL as0 S cells slots) : W p l e R s m args below meth c H locs cells slots Q (F0 m pc ls1 st1) := by
  unfold am_ldc at hs
  obtain ⟨t, hl, hst, hw, hP, hD, hS⟩ := Rl
  split at hs
  · cases hs
    exact lv_ldcw hx hb hown (hts _ (h0 rfl)) hdg (go as ws ls1 _ H locs ⟨t, hl, ⟨rfl, hst⟩, hw, hP, hD, hS⟩)
  · cases hs
    exact lv_ldcwS hx hb hown (hvk _ (h1 rfl)) hdg (go as ws ls1 _ H locs ⟨t, hl, ⟨am_RV_mkx (by omega) am_X_mktxt, hst⟩, hw, hP, hD, hS⟩)
  · cases hs
theorem sim_iald (hx : p.tables.exec = Jvm.exec) (hb : c.code = cc) (hK : va_K k.2.1 am_cl (am_tys k.2.2.1) s) {scr : ASc} (hscr : ∀ n f, scr = some (n, f) → va_X b n f s s.heap ∧ b < s.heap.size ∧ ¬ am_A k b) (hdg : decode cc pc = .ok (.iaload, 1))
    (hs : am_iald scr pc ls st h = some S) (Rl : am_Rel k (am_X k b) nL s as0 as ws ls st h ls1 st1 H locs) (go : am_Go p l e R s m args below meth c Q k (am_X k b) nL as0 S cells slots) : W p l e R s m args below meth c H locs cells slots Q (F0 m pc ls1 st1) := by
  unfold am_iald at hs
  split at hs
  · next i a r =>
    obtain ⟨t, hl, hst, hw, hP, hD, hS⟩ := Rl
    obtain ⟨r0, rfl, hst0⟩ := am_RS_int hst
    split at hs
    · next ha =>
      obtain ⟨q, r', hq, rfl, hst'⟩ := am_RS_ref hst0 ha
      split at hs
      · next n f hcell =>
        split at hs
        · next hi =>
          cases hs
          obtain ⟨g, hg, ht5, hra⟩ := am_arr_at hw hcell hq
          rcases g with g | g | g | g | g <;> try exact hra.elim
          have hfg : f = g := hra
          subst hfg
          exact va_iald hx hb hK hP a 0 hg rfl (am_in hi.1 hi.2) hdg (go as ws ls1 _ H locs ⟨t, hl, ⟨rfl, hst'⟩, hw, hP, hD, hS⟩)
        · cases hs
      · cases hs
    · next ha =>
      split at hs
      · next hab =>
        subst hab
        obtain ⟨w, r', rfl, hw0, hst'⟩ := am_RS_cons hst0
        have hw1 := am_X_scr (am_RV_ext hw0 ha)
        subst hw1
        split at hs
        · next n f =>
          split at hs
          · next hi =>
            cases hs
            obtain ⟨h1, h2, h3⟩ := hscr n f rfl
            exact va_sld hx hb h1 h2 h3 hS (am_in hi.1 hi.2) hdg (go as ws ls1 _ H locs ⟨t, hl, ⟨rfl, hst'⟩, hw, hP, hD, hS⟩)
          · cases hs
        · cases hs
      · cases hs
  · cases hs
theorem sim_bald (hx : p.tables.exec = Jvm.exec) (hb : c.code = cc) (hK : va_K k.2.1 am_cl (am_tys k.2.2.1) s) (hstr : am_Str k s s.heap) (hdg : decode cc pc = .ok (.baload, 1))
    (hs : am_bald pc ls st h = some S) (Rl : am_Rel k (am_X k b) nL s as0 as ws ls st h ls1 st1 H locs) (go : am_Go p l e R s m args below meth c Q k (am_X k b) nL as0 S cells slots) : W p l e R s m args below meth c H locs cells slots Q (F0 m pc ls1 st1) := by
  unfold am_bald at hs
  split at hs
  · next i a r =>
    obtain ⟨t, hl, hst, hw, hP, hD, hS⟩ := Rl
    obtain ⟨r0, rfl, hst0⟩ := am_RS_int hst
    split at hs
    · next ha =>
      obtain ⟨q, r', hq, rfl, hst'⟩ := am_RS_ref hst0 ha
      split at hs
      · next u n f hcell =>
        split at hs
        · next hi =>
          cases hs
          obtain ⟨g, hg, ht5, hra⟩ := am_arr_at hw hcell hq
          rcases g with g | g | g | g | g <;> try exact hra.elim
          have hfg : f = g := hra
          subst hfg
          rcases hi.1 with rfl | rfl
          · exact va_zald hx hb hK hP a 1 hg rfl (am_in hi.2.1 hi.2.2) hdg (go as ws ls1 _ H locs ⟨t, hl, ⟨rfl, hst'⟩, hw, hP, hD, hS⟩)
          · exact va_bald hx hb hK hP a 2 hg rfl (am_in hi.2.1 hi.2.2) hdg (go as ws ls1 _ H locs ⟨t, hl, ⟨rfl, hst'⟩, hw, hP, hD, hS⟩)
        · cases hs
      · cases hs
    · next ha =>
      split at hs
      · next n f ho =>
        obtain ⟨w, r', rfl, hw0, hst'⟩ := am_RS_cons hst0
        have hw1 := am_X_oa ho (am_RV_ext hw0 ha)
        subst hw1
        split at hs
        · next hi =>
          cases hs
          exact va_tb hx hb (hstr.2.1 a n f ho) hS (am_in hi.1 hi.2) rfl hdg (go as ws ls1 _ H locs ⟨t, hl, ⟨rfl, hst'⟩, hw, hP, hD, hS⟩)
        · cases hs
      · cases hs
  · cases hs
theorem am_aaldR (hx : p.tables.exec = Jvm.exec) (hb : c.code = cc) (hK : va_K k.2.1 am_cl (am_tys k.2.2.1) s) (hP : va_P k.2.1 am_cl ws H) (q0 ty : Nat) {a n : Nat} {f : Nat → Option Nat} {rest : List Value} (ha : ws[q0]? = some (a, .inl (k.2.2.1 ty, n, .inr (.inr (.inr (.inr f)))))) (h3 : 3 ≤ ty) (h8 : ty < 8) {i : Int32} (hin : vp_in i n) (hdg : decode cc pc = .ok (.aaload, 1))
    (kk : W p l e R s m args below meth c H locs cells slots Q (F0 m (pc + 1) ls1 (va_rf (f i.toNatClampNeg) :: rest))) : W p l e R s m args below meth c H locs cells slots Q (F0 m pc ls1 (.int i :: .ref a :: rest)) := by
  have hlt : i.toNatClampNeg < n := Nat.not_le.mp fun q => hin (Or.inr q)
  have hA := (hK.2 ty _ (am_tys_at (G := k.2.2.1) (t := ty) h8)).1 n (fun j => va_rf (f j))
  have h1 : ¬ (i < 0 ∨ (arrV (k.2.2.1 ty) n (fun j => va_rf (f j))).slots.size ≤ i.toNatClampNeg) := by rw [arrV_size]; exact hin
  have h2 : (arrV (k.2.2.1 ty) n (fun j => va_rf (f j))).slots[i.toNatClampNeg]? = some (va_rf (f i.toNatClampNeg)) := by rw [arrV_read _ _ hlt]
  have e5 : ty = 3 ∨ ty = 4 ∨ ty = 5 ∨ ty = 6 ∨ ty = 7 := by omega
  have hPa := hP q0 _ ha
  clear ha hlt hin hP
  rcases e5 with rfl | rfl | rfl | rfl | rfl
  · exact W.aald (v := va_rf (f i.toNatClampNeg)) (ty := .object "PebbleProofs$Board") hx hb hPa hA rfl (fun q => by cases q) h1 h2 rfl rfl hdg kk
  · exact W.aald (v := va_rf (f i.toNatClampNeg)) (ty := .object "PebbleProofs$FailingPiles") hx hb hPa hA rfl (fun q => by cases q) h1 h2 rfl rfl hdg kk
  · exact W.aald (v := va_rf (f i.toNatClampNeg)) (ty := .object "java/lang/Object") hx hb hPa hA rfl (fun q => by cases q) h1 h2 rfl rfl hdg kk
  · exact W.aald (v := va_rf (f i.toNatClampNeg)) (ty := .array .boolean) hx hb hPa hA rfl (fun q => by cases q) h1 h2 rfl rfl hdg kk
  · exact W.aald (v := va_rf (f i.toNatClampNeg)) (ty := .array .int) hx hb hPa hA rfl (fun q => by cases q) h1 h2 rfl rfl hdg kk
theorem sim_aald (hx : p.tables.exec = Jvm.exec) (hb : c.code = cc) (hK : va_K k.2.1 am_cl (am_tys k.2.2.1) s) (hdg : decode cc pc = .ok (.aaload, 1))
    (hs : am_aald pc ls st h = some S) (Rl : am_Rel k (am_X k b) nL s as0 as ws ls st h ls1 st1 H locs) (go : am_Go p l e R s m args below meth c Q k (am_X k b) nL as0 S cells slots) : W p l e R s m args below meth c H locs cells slots Q (F0 m pc ls1 st1) := by
  unfold am_aald at hs
  split at hs
  · next i a r =>
    obtain ⟨t, hl, hst, hw, hP, hD, hS⟩ := Rl
    obtain ⟨r0, rfl, hst0⟩ := am_RS_int hst
    split at hs
    · next ha =>
      obtain ⟨q, r', hq, rfl, hst'⟩ := am_RS_ref hst0 ha
      split at hs
      · next ty n f hcell =>
        split at hs
        · next hi =>
          cases hs
          obtain ⟨g, hg, ht5, hra⟩ := am_arr_at hw hcell hq
          rcases g with g | g | g | g | g <;> try exact hra.elim
          have hv : am_RV (am_X k b) as (va_rf (f i.toNatClampNeg)) (va_rf (g i.toNatClampNeg)) := by
            obtain ⟨h1, h2⟩ := hra i.toNatClampNeg
            cases hf : f i.toNatClampNeg with
            | none => rw [h1 hf]; rfl
            | some j =>
              obtain ⟨h3, q', h4, h5⟩ := h2 j hf
              rw [h5]
              exact am_RV_mk h3 h4
          have hlt := hi.1
          refine am_aaldR hx hb hK hP a ty hg hlt.1 hlt.2 (am_in hi.2.1 hi.2.2) hdg (go as ws ls1 _ H locs ⟨t, hl, ⟨hv, hst'⟩, hw, hP, hD, hS⟩)
        · cases hs
      · cases hs
    · cases hs
  · cases hs
theorem sim_iast (hx : p.tables.exec = Jvm.exec) (hb : c.code = cc) (hK : va_K k.2.1 am_cl (am_tys k.2.2.1) s) (hdg : decode cc pc = .ok (.iastore, 1))
    (hs : am_iast pc ls st h = some S) (Rl : am_Rel k (am_X k b) nL s as0 as ws ls st h ls1 st1 H locs) (go : am_Go p l e R s m args below meth c Q k (am_X k b) nL as0 S cells slots) : W p l e R s m args below meth c H locs cells slots Q (F0 m pc ls1 st1) := by
  unfold am_iast at hs
  split at hs
  · next x i a r =>
    obtain ⟨t, hl, hst, hw, hP, hD, hS⟩ := Rl
    obtain ⟨r00, rfl, hst00⟩ := am_RS_int hst
    obtain ⟨r0, rfl, hst0⟩ := am_RS_int hst00
    split at hs
    · next ha =>
      obtain ⟨q, r', hq, rfl, hst'⟩ := am_RS_ref hst0 ha
      split at hs
      · next n f hcell =>
        split at hs
        · next hi =>
          cases hs
          obtain ⟨g, hg, ht5, hra⟩ := am_arr_at hw hcell hq
          rcases g with g | g | g | g | g <;> try exact hra.elim
          have hfg : f = g := hra
          subst hfg
          exact va_iast hx hb hK hP hD hS a 0 hg rfl (am_in hi.1 hi.2) hdg (fun H1 locs1 hP1 hD1 hS1 => go as _ ls1 r' H1 locs1 ⟨t, hl, hst', am_RW_set hw hq (am_RC_arr (b := .inl (upd f i.toNatClampNeg x)) (by decide) rfl), hP1, hD1, hS1⟩)
        · cases hs
      · cases hs
    · cases hs
  · cases hs
theorem sim_bast (hx : p.tables.exec = Jvm.exec) (hb : c.code = cc) (hK : va_K k.2.1 am_cl (am_tys k.2.2.1) s) (hdg : decode cc pc = .ok (.bastore, 1))
    (hs : am_bast pc ls st h = some S) (Rl : am_Rel k (am_X k b) nL s as0 as ws ls st h ls1 st1 H locs) (go : am_Go p l e R s m args below meth c Q k (am_X k b) nL as0 S cells slots) : W p l e R s m args below meth c H locs cells slots Q (F0 m pc ls1 st1) := by
  unfold am_bast at hs
  split at hs
  · next x i a r =>
    obtain ⟨t, hl, hst, hw, hP, hD, hS⟩ := Rl
    obtain ⟨r00, rfl, hst00⟩ := am_RS_int hst
    obtain ⟨r0, rfl, hst0⟩ := am_RS_int hst00
    split at hs
    · next ha =>
      obtain ⟨q, r', hq, rfl, hst'⟩ := am_RS_ref hst0 ha
      split at hs
      · next u n f hcell =>
        split at hs
        · next hi =>
          cases hs
          obtain ⟨g, hg, ht5, hra⟩ := am_arr_at hw hcell hq
          rcases g with g | g | g | g | g <;> try exact hra.elim
          have hfg : f = g := hra
          subst hfg
          rcases hi.2 with ⟨rfl, hi2⟩ | ⟨rfl, hi2⟩
          · have hxx : vp_nar .boolean x = x := by rcases hi2 with rfl | rfl <;> decide
            refine va_zast hx hb hK hP hD hS a 1 hg rfl (am_in hi.1.1 hi.1.2) hdg (fun H1 locs1 hP1 hD1 hS1 => ?_)
            rw [hxx] at hP1 hD1
            exact go as _ ls1 r' H1 locs1 ⟨t, hl, hst', am_RW_set hw hq (am_RC_arr (b := .inl (upd f i.toNatClampNeg x)) (by decide) rfl), hP1, hD1, hS1⟩
          · have hxx : vp_nar .byte x = x := by rw [vp_nar_byte]; exact hi2
            refine va_bast hx hb hK hP hD hS a 2 hg rfl (am_in hi.1.1 hi.1.2) hdg (fun H1 locs1 hP1 hD1 hS1 => ?_)
            rw [hxx] at hP1 hD1
            exact go as _ ls1 r' H1 locs1 ⟨t, hl, hst', am_RW_set hw hq (am_RC_arr (b := .inl (upd f i.toNatClampNeg x)) (by decide) rfl), hP1, hD1, hS1⟩
        · cases hs
      · cases hs
    · cases hs
  · cases hs
/-- the words that a thing of the world is an Object -/
def am_isO (s : State) : Prop := (∀ (ci : Nat) (q : vw_C), am_cl[ci]? = some q → va_Nw (.castable q.1 "java/lang/Object") s) ∧ ∀ t, t < 8 → va_Nw (.castable ("[" ++ (am_el t).toString) "java/lang/Object") s
theorem am_nmT {t : Nat} (hK : va_K k.2.1 am_cl (am_tys k.2.2.1) s) (ht : t < 8) : s.vm.findClass ("[" ++ (am_el t).toString) = some (k.2.2.1 t) := by
  have h := (hK.2 t _ (am_tys_at (G := k.2.2.1) (t := t) ht)).2
  match t, ht, h with
  | 0, _, h => exact h
  | 1, _, h => exact h
  | 2, _, h => exact h
  | 3, _, h => obtain ⟨_, _, _, _, _, q⟩ := h; exact q
  | 4, _, h => obtain ⟨_, _, _, _, _, q⟩ := h; exact q
  | 5, _, h => obtain ⟨_, _, _, _, _, q⟩ := h; exact q
  | 6, _, h => exact h
  | 7, _, h => exact h
theorem am_any {X : Nat → Value → Prop} {i a : Nat} {cl : AC} (hK : va_K k.2.1 am_cl (am_tys k.2.2.1) s) (hO : am_isO s) (hP : va_P k.2.1 am_cl ws H) (hw : am_RW X k.2.2.1 as h ws) (hc : h[i]? = some cl) (ha : as[i]? = some a) : va_Any "java/lang/Object" s H a := by
  obtain ⟨e, h1, h2⟩ := am_RW_get hw hc ha
  rcases e with ⟨cA, n, g⟩ | ⟨ci, gs⟩
  · rcases cl with ⟨t, m2, f⟩ | ⟨cj, fs⟩
    · obtain ⟨rfl, rfl, ht, -⟩ := h2
      obtain ⟨c0, t0, f1, f2, f3⟩ := Cond.castable_spec (va_Nw.use (A := #[]) rfl (hO.2 t ht))
      cases (am_nmT hK ht).symm.trans f1
      obtain ⟨kC, hkC, -⟩ := Vm.findClass_spec (am_nmT hK ht)
      have hcv : (vp_cell (k.2.2.1 t) (m2, g)).vm = .none ∧ (vp_cell (k.2.2.1 t) (m2, g)).cls = k.2.2.1 t := by
        rcases g with g | g | g | g | g <;> exact ⟨rfl, rfl⟩
      refine ⟨_, hP i _ h1, by rw [hcv.1]; rfl, ⟨kC, by rw [hcv.2]; exact hkC⟩, fun comp hcomp => ?_⟩
      rw [hcv.2]
      cases hcomp.symm.trans f2
      exact f3
    · exact h2.elim
  · obtain ⟨⟨C, T, N⟩, hcl⟩ := am_P_cl hP h1
    refine va_rAny hK hP h1 hcl (fun comp c0 hcomp hc0 => ?_)
    obtain ⟨c1, t0, f1, f2, f3⟩ := Cond.castable_spec (va_Nw.use (A := #[]) rfl (hO.1 ci _ hcl))
    cases hcomp.symm.trans f2
    cases hc0.symm.trans f1
    exact f3
theorem sim_aast (hx : p.tables.exec = Jvm.exec) (hb : c.code = cc) (hK : va_K k.2.1 am_cl (am_tys k.2.2.1) s) (hO : am_isO s) (hdg : decode cc pc = .ok (.aastore, 1))
    (hs : am_aast pc ls st h = some S) (Rl : am_Rel k (am_X k b) nL s as0 as ws ls st h ls1 st1 H locs) (go : am_Go p l e R s m args below meth c Q k (am_X k b) nL as0 S cells slots) : W p l e R s m args below meth c H locs cells slots Q (F0 m pc ls1 st1) := by
  unfold am_aast at hs
  split at hs
  · next v i a r =>
    obtain ⟨t, hl, hst, hw, hP, hD, hS⟩ := Rl
    split at hs
    · next ha =>
      obtain ⟨qv, r00, hqv, rfl, hst00⟩ := am_RS_ref hst ha.2
      obtain ⟨r0, rfl, hst0⟩ := am_RS_int hst00
      obtain ⟨q, r', hq, rfl, hst'⟩ := am_RS_ref hst0 ha.1
      split at hs
      · next ty n f cl hcell hcv =>
        split at hs
        · next hi =>
          cases hs
          obtain ⟨g, hg, ht5, hra⟩ := am_arr_at hw hcell hq
          rcases g with g | g | g | g | g <;> try exact hra.elim
          have hra' : am_RA as (.inr (.inr (.inr (.inr (va_up f i.toNatClampNeg (some v)))))) (.inr (.inr (.inr (.inr (va_up g i.toNatClampNeg (some qv)))))) := by
            intro j
            by_cases hj : j = i.toNatClampNeg
            · refine ⟨fun z => ?_, fun u z => ?_⟩
              · simp only [va_up, if_pos hj] at z; cases z
              · simp only [va_up, if_pos hj] at z ⊢
                cases z
                exact ⟨ha.2, qv, hqv, rfl⟩
            · simp only [va_up, if_neg hj]
              exact hra j
          have fin : ∀ (H1 : Heap) (locs1 : List Loc), va_P k.2.1 am_cl (ws.set a (q, .inl (k.2.2.1 ty, n, .inr (.inr (.inr (.inr (va_up g i.toNatClampNeg (some qv)))))))) H1 → va_D (am_A k) (ws.set a (q, .inl (k.2.2.1 ty, n, .inr (.inr (.inr (.inr (va_up g i.toNatClampNeg (some qv)))))))) → va_S (am_A k) s.heap H1 locs1 → W p l e R s m args below meth c H1 locs1 cells slots Q (F0 m (pc + 1) ls1 r') :=
            fun H1 locs1 hP1 hD1 hS1 => go as _ ls1 r' H1 locs1 ⟨t, hl, hst', am_RW_set hw hq (am_RC_arr (b := .inr (.inr (.inr (.inr (va_up g i.toNatClampNeg (some qv)))))) ht5 hra'), hP1, hD1, hS1⟩
          have hin := am_in hi.2.1 hi.2.2
          have hmay := hi.1
          rcases cl with ⟨u, m2, f2⟩ | ⟨ci, fs⟩
          · have e5 : ty = 5 := of_decide_eq_true hmay
            subst e5
            exact va_astqM (E := "java/lang/Object") hx hb hK hP hD hS a 5 hg rfl (am_any hK hO hP hw hcv hqv) hin hdg fin
          · have e5 : (ty = 3 ∧ ci = 0) ∨ (ty = 4 ∧ ci = 1) ∨ ty = 5 := of_decide_eq_true hmay
            obtain ⟨gs, hgv, -⟩ := am_obj_at hw hcv hqv
            rcases e5 with ⟨rfl, rfl⟩ | ⟨rfl, rfl⟩ | rfl
            · exact va_astq (r := ("PebbleProofs$Board", am_T0, 9)) hx hb hK hP hD hS a 3 v 0 hg rfl hgv rfl hin hdg fin
            · exact va_astq (r := ("PebbleProofs$FailingPiles", am_T1, 12)) hx hb hK hP hD hS a 4 v 1 hg rfl hgv rfl hin hdg fin
            · exact va_astqM (E := "java/lang/Object") hx hb hK hP hD hS a 5 hg rfl (am_any hK hO hP hw hcv hqv) hin hdg fin
        · cases hs
      · cases hs
    · cases hs
  · next i a r =>
    obtain ⟨t, hl, hst, hw, hP, hD, hS⟩ := Rl
    split at hs
    · next ha =>
      obtain ⟨w0, r00, rfl, rfl, hst00⟩ := am_RS_cons hst
      obtain ⟨r0, rfl, hst0⟩ := am_RS_int hst00
      obtain ⟨q, r', hq, rfl, hst'⟩ := am_RS_ref hst0 ha
      split at hs
      · next ty n f hcell =>
        split at hs
        · next hi =>
          obtain ⟨rfl, hi⟩ := hi
          cases hs
          obtain ⟨g, hg, ht5, hra⟩ := am_arr_at hw hcell hq
          rcases g with g | g | g | g | g <;> try exact hra.elim
          have hra' : am_RA as (.inr (.inr (.inr (.inr (va_up f i.toNatClampNeg none))))) (.inr (.inr (.inr (.inr (va_up g i.toNatClampNeg none))))) := by
            intro j
            by_cases hj : j = i.toNatClampNeg
            · refine ⟨fun z => ?_, fun u z => ?_⟩
              · simp only [va_up, if_pos hj]
              · simp only [va_up, if_pos hj] at z; cases z
            · simp only [va_up, if_neg hj]
              exact hra j
          exact va_astqN (C := "java/lang/Object") hx hb hK hP hD hS a 5 hg rfl (am_in hi.1 hi.2) hdg (fun H1 locs1 hP1 hD1 hS1 => go as _ ls1 r' H1 locs1 ⟨t, hl, hst', am_RW_set hw hq (am_RC_arr (b := .inr (.inr (.inr (.inr (va_up g i.toNatClampNeg none))))) ht5 hra'), hP1, hD1, hS1⟩)
        · cases hs
      · cases hs
    · cases hs
  · cases hs
theorem sim_alen (hx : p.tables.exec = Jvm.exec) (hb : c.code = cc) (hK : va_K k.2.1 am_cl (am_tys k.2.2.1) s) (hstr : am_Str k s s.heap) {scr : ASc} (hscr : ∀ n f, scr = some (n, f) → va_X b n f s s.heap ∧ b < s.heap.size ∧ ¬ am_A k b) (hdg : decode cc pc = .ok (.arraylength, 1))
    (hs : am_alen scr pc ls st h = some S) (Rl : am_Rel k (am_X k b) nL s as0 as ws ls st h ls1 st1 H locs) (go : am_Go p l e R s m args below meth c Q k (am_X k b) nL as0 S cells slots) : W p l e R s m args below meth c H locs cells slots Q (F0 m pc ls1 st1) := by
  unfold am_alen at hs
  split at hs
  · next a r =>
    obtain ⟨t, hl, hst, hw, hP, hD, hS⟩ := Rl
    split at hs
    · next ha =>
      obtain ⟨q, r', hq, rfl, hst'⟩ := am_RS_ref hst ha
      split at hs
      · next ty n f hcell =>
        split at hs
        · cases hs
          obtain ⟨g, hg, ht5, hra⟩ := am_arr_at hw hcell hq
          exact va_alen (x := (n, g)) hx hb hK hP a ty hg (am_tys_at ht5) rfl hdg (go as ws ls1 _ H locs ⟨t, hl, ⟨rfl, hst'⟩, hw, hP, hD, hS⟩)
        · cases hs
      · cases hs
    · next ha =>
      obtain ⟨w, r', rfl, hw0, hst'⟩ := am_RS_cons hst
      have hXx := am_RV_ext hw0 ha
      split at hs
      · next hab =>
        subst hab
        have hw1 := am_X_scr hXx
        subst hw1
        split at hs
        · next n f =>
          cases hs
          obtain ⟨h1, h2, h3⟩ := hscr n f rfl
          exact va_slen hx hb h1 h2 h3 hS hdg (go as ws ls1 _ H locs ⟨t, hl, ⟨rfl, hst'⟩, hw, hP, hD, hS⟩)
        · cases hs
      · next hab0 =>
        split at hs
        · next hab =>
          subst hab
          cases hs
          have hw1 : w = .ref (k.2.2.2.2 100) := am_X_fun k b _ _ _ (by omega) hXx (am_X_stat (i := 0) (by decide))
          subst hw1
          exact va_tlen hx hb hstr.2.2 hS rfl hdg (go as ws ls1 _ H locs ⟨t, hl, ⟨rfl, hst'⟩, hw, hP, hD, hS⟩)
        · split at hs
          · next n f ho =>
            cases hs
            have hw1 := am_X_oa ho hXx
            subst hw1
            exact va_tlen hx hb (hstr.2.1 a n f ho) hS rfl hdg (go as ws ls1 _ H locs ⟨t, hl, ⟨rfl, hst'⟩, hw, hP, hD, hS⟩)
          · cases hs
  · cases hs
theorem sim_copy (hx : p.tables.exec = Jvm.exec) (hb : c.code = cc) (hml : c.maxLocals = nL) (hown : s.vm.findClass own = some m.cls) (hK : va_K k.2.1 am_cl (am_tys k.2.2.1) s) (hO : am_isO s) (hstr : am_Str k s s.heap) {idx : Nat} (hdg : decode cc pc = .ok (.invokestatic idx, 3)) (h1 : (Jvm.Cond.methodLink own idx arraycopyName).before args s = true) (h2 : (Jvm.Cond.native arraycopyName).before args s = true) (h3 : (Jvm.Cond.static arraycopyName).before args s = true) (h4 : (Jvm.Cond.initialized "java/lang/System").before args s = true)
    (hframes : 1 ≤ R.frames) (hlocals : 8 + (nativeFrameWords "java/lang/System" "arraycopy" 5 + 11) ≤ R.locals)
    (hs : am_copy pc ls st h = some S) (Rl : am_Rel k (am_X k b) nL s as0 as ws ls st h ls1 st1 H locs) (go : am_Go p l e R s m args below meth c Q k (am_X k b) nL as0 S cells slots) : W p l e R s m args below meth c H locs cells slots Q (F0 m pc ls1 st1) := by
  unfold am_copy at hs
  split at hs
  · next n dp a sp b0 r =>
    obtain ⟨t, hl, hst, hw, hP, hD, hS⟩ := Rl
    split at hs
    · next hab =>
      obtain ⟨ha, hsum⟩ := hab
      obtain ⟨x1, rfl, g1⟩ := am_RS_int hst
      obtain ⟨x2, rfl, g2⟩ := am_RS_int g1
      obtain ⟨q, x3, hq, rfl, g3⟩ := am_RS_ref g2 ha
      obtain ⟨x4, rfl, g4⟩ := am_RS_int g3
      split at hs
      · next hb0 =>
        obtain ⟨q0, r', hq0, rfl, g5⟩ := am_RS_ref g4 hb0
        have hcat : (r'.map fun v => v.category).sum + (nativeFrameWords "java/lang/System" "arraycopy" 5 + 11) ≤ R.locals := by rw [am_RS_cat (am_X_ok k b) g5]; omega
        split at hs
        · next u0 n0 f u1 n1 g hc0 hc1 =>
          split at hs
          · next hi =>
            cases hs
            obtain ⟨⟨rfl, hty⟩, i1, i2, i3, i4, i5⟩ := hi
            obtain ⟨f', hf', ht8, hra⟩ := am_arr_at hw hc0 hq0
            obtain ⟨g', hg', -, hrb⟩ := am_arr_at hw hc1 hq
            rcases f' with f' | f' | f' | f' | f' <;> try exact hra.elim
            rcases g' with g' | g' | g' | g' | g' <;> try exact hrb.elim
            have e1 : f = f' := hra
            have e2 : g = g' := hrb
            subst e1; subst e2
            have hrk : refKind (am_el u0) = false := by rcases hty with rfl | ⟨rfl | rfl, -⟩ <;> rfl
            have hfit : ∀ i, i < n.toNatClampNeg → fits (am_el u0) (.int (f (sp.toNatClampNeg + i))) = true := by
              intro i hi
              rcases hty with rfl | ⟨-, hf⟩
              · rfl
              · exact hf _ (by omega)
            exact va_copyi hx hb (by rw [hml]; exact hl.1.symm) hown h1 h2 h3 h4 hK hP hD hS b0 a u0 u0 hf' hg' (am_tys_at ht8) (am_tys_at ht8) hrk (am_nn i1) (am_nn i2) (am_nn i3) i4 i5 hfit hframes hcat hdg (fun H1 locs1 hP1 hD1 hS1 => go as _ ls1 r' H1 locs1 ⟨t, hl, g5, am_RW_set hw hq (am_RC_arr (b := .inl (va_cpy f g sp.toNatClampNeg dp.toNatClampNeg n.toNatClampNeg)) ht8 rfl), hP1, hD1, hS1⟩)
          · cases hs
        · next u0 n0 f u1 n1 g hc0 hc1 =>
          split at hs
          · next hi =>
            cases hs
            obtain ⟨⟨rfl, rfl⟩, i1, i2, i3, i4, i5⟩ := hi
            obtain ⟨f', hf', ht8, hra⟩ := am_arr_at hw hc0 hq0
            obtain ⟨g', hg', -, hrb⟩ := am_arr_at hw hc1 hq
            rcases f' with f' | f' | f' | f' | f' <;> try exact hra.elim
            rcases g' with g' | g' | g' | g' | g' <;> try exact hrb.elim
            have hel : ∀ i : Nat, i < n.toNatClampNeg → ∀ y : Nat, f' (sp.toNatClampNeg + i) = some y → va_Any "java/lang/Object" s H y := by
              intro i hi y hy
              cases hff : f (sp.toNatClampNeg + i) with
              | none => rw [(hra _).1 hff] at hy; cases hy
              | some z =>
                obtain ⟨z1, y2, z2, z3⟩ := (hra _).2 z hff
                rw [z3] at hy
                cases hy
                have hzl : z < h.length := by rw [← hw.1]; exact (List.getElem?_eq_some_iff.mp z2).1
                exact am_any hK hO hP hw (List.getElem?_eq_getElem hzl) z2
            have hrc : am_RA as (.inr (.inr (.inr (.inr (va_cpy f g sp.toNatClampNeg dp.toNatClampNeg n.toNatClampNeg))))) (.inr (.inr (.inr (.inr (va_cpy f' g' sp.toNatClampNeg dp.toNatClampNeg n.toNatClampNeg))))) := by
              intro j
              simp only [va_cpy]
              split
              · exact hra _
              · exact hrb j
            exact va_copyM (E0 := "java/lang/Object") (E1 := "java/lang/Object") hx hb (by rw [hml]; exact hl.1.symm) hown h1 h2 h3 h4 hK hP hD hS b0 a 5 5 hf' hg' rfl rfl (am_nn i1) (am_nn i2) (am_nn i3) i4 i5 hel hframes hcat hdg (fun H1 locs1 hP1 hD1 hS1 => go as _ ls1 r' H1 locs1 ⟨t, hl, g5, am_RW_set hw hq (am_RC_arr (b := .inr (.inr (.inr (.inr (va_cpy f' g' sp.toNatClampNeg dp.toNatClampNeg n.toNatClampNeg))))) ht8 hrc), hP1, hD1, hS1⟩)
          · cases hs
        · cases hs
      · next hb0 =>
        obtain ⟨w, r', rfl, hw0, g5⟩ := am_RS_cons g4
        have hcat : (r'.map fun v => v.category).sum + (nativeFrameWords "java/lang/System" "arraycopy" 5 + 11) ≤ R.locals := by rw [am_RS_cat (am_X_ok k b) g5]; omega
        split at hs
        · next n0 f u1 n1 g ho hc1 =>
          split at hs
          · next hi =>
            cases hs
            obtain ⟨rfl, i1, i2, i3, i4, i5⟩ := hi
            have hw1 := am_X_oa ho (am_RV_ext hw0 hb0)
            subst hw1
            obtain ⟨g', hg', -, hrb⟩ := am_arr_at hw hc1 hq
            rcases g' with g' | g' | g' | g' | g' <;> try exact hrb.elim
            have e2 : g = g' := hrb
            subst e2
            exact vk_copyt hx hb (by rw [hml]; exact hl.1.symm) hown h1 h2 h3 h4 hK hP hD hS (hstr.2.1 b0 n0 f ho) a 2 hg' rfl (am_nn i1) (am_nn i2) (am_nn i3) i4 i5 (fun i hi => am_oa_fit ho _ (by omega)) hframes hcat hdg (fun H1 locs1 hP1 hD1 hS1 => go as _ ls1 r' H1 locs1 ⟨t, hl, g5, am_RW_set hw hq (am_RC_arr (b := .inl (va_cpy f g sp.toNatClampNeg dp.toNatClampNeg n.toNatClampNeg)) (by decide) rfl), hP1, hD1, hS1⟩)
          · cases hs
        · cases hs
    · cases hs
  · cases hs
theorem sim_m2 {f : Int32 → Int32 → Int32} (row : ∀ {x y : Int32} {rest : List Value}, (rest.map fun v => v.category).sum ≤ 8 → W p l e R s m args below meth c H locs cells slots Q (F0 m (pc + 3) ls1 (.int (f x y) :: rest)) → W p l e R s m args below meth c H locs cells slots Q (F0 m pc ls1 (.int y :: .int x :: rest))) (hs : am_m2 f pc ls st h = some S) (Rl : am_Rel k (am_X k b) nL s as0 as ws ls st h ls1 st1 H locs) (go : am_Go p l e R s m args below meth c Q k (am_X k b) nL as0 S cells slots) : W p l e R s m args below meth c H locs cells slots Q (F0 m pc ls1 st1) := by
  unfold am_m2 at hs
  split at hs
  · split at hs
    · next hsum =>
      cases hs
      obtain ⟨t, hl, hst, hw, hP, hD, hS⟩ := Rl
      obtain ⟨r1, rfl, h1⟩ := am_RS_int hst
      obtain ⟨r2, rfl, h2⟩ := am_RS_int h1
      exact row (by rw [am_RS_cat (am_X_ok k b) h2]; exact hsum) (go as ws ls1 _ H locs ⟨t, hl, ⟨rfl, h2⟩, hw, hP, hD, hS⟩)
    · cases hs
  · cases hs
theorem sim_obj (hx : p.tables.exec = Jvm.exec) (hb : c.code = cc) (hml : c.maxLocals = nL) (hown : s.vm.findClass own = some m.cls) {idx : Nat} (hdg : decode cc pc = .ok (.invokespecial idx, 3)) (h1 : (Jvm.Cond.methodLink own idx Lib.objectInit).before args s = true) (h2 : (Jvm.Cond.instanceMethod Lib.objectInit).before args s = true) (h3 : (Jvm.Cond.code Lib.objectInit ⟨#[0xb1]⟩ 1 none).before args s = true)
    (hframes : 1 ≤ R.frames) (hlocals : 8 + 12 ≤ R.locals)
    (hs : am_obj pc ls st h = some S) (Rl : am_Rel k (am_X k b) nL s as0 as ws ls st h ls1 st1 H locs) (go : am_Go p l e R s m args below meth c Q k (am_X k b) nL as0 S cells slots) : W p l e R s m args below meth c H locs cells slots Q (F0 m pc ls1 st1) := by
  unfold am_obj at hs
  split at hs
  · next a r =>
    obtain ⟨t, hl, hst, hw, hP, hD, hS⟩ := Rl
    split at hs
    · next ha =>
      obtain ⟨q, r', hq, rfl, g1⟩ := am_RS_ref hst ha.1
      cases hs
      refine W.objInit hx hb hown h1 h2 h3 rfl (by show ls1.size = c.maxLocals; rw [hml]; exact hl.1) rfl hdg hframes ?_ (go as ws ls1 r' H locs ⟨t, hl, g1, hw, hP, hD, hS⟩)
      have h5 := lv_room (m := m) (pc := pc) (ls := ls1) (rest := r') (st := r') (by rw [am_RS_cat (am_X_ok k b) g1]; exact ha.2)
      exact Nat.le_trans (Nat.add_le_add_right h5 12) hlocals
    · cases hs
  · cases hs
end AMR
