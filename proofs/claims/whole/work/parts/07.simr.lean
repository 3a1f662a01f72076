/-! ===== the simulation: reads and writes of fields, arrays, texts, the script ===== -/
def am_txs : Nat → String
  | 0 => "vertices"
  | 1 => "edge"
  | 2 => "pile"
  | _ => "strategy"
/-- where the texts stand in the classes' pools -/
def am_sr : List (String × Nat × Nat) := [("PebbleProofs$SetupText", 82, 0), ("PebbleProofs$SetupText", 91, 1), ("PebbleProofs$SetupText", 96, 2), ("PebbleProofs$SetupText", 101, 3), ("PebbleProofsModel", 156, 0), ("PebbleProofsModel", 169, 1), ("PebbleProofsModel", 174, 2), ("PebbleProofsModel", 179, 3)]
/-- the texts: objects with their bytes -/
def am_Str (k : AK) (s : State) (H : Heap) : Prop := ∀ i, i < 4 → va_O "java/lang/String" (k.2.2.2.1 i) (am_A k) s H ∧ va_OF "java/lang/String" "coder" "B" (.int 0) (k.2.2.2.1 i) (am_A k) s H ∧ va_OF "java/lang/String" "value" "[B" (.ref (k.2.2.2.2 i)) (k.2.2.2.1 i) (am_A k) s H ∧ va_T .byte (k.2.2.2.2 i) (am_tx i).length (fun j => .int ((am_tx i).getD j 0)) (am_A k) s H
theorem am_X_txt {k : AK} {b a : Nat} {w : Value} (h1 : (a - (am_SB + 10)) % 2 = 0) (h2 : am_SB + 10 ≤ a) (h : am_X k b a w) : w = .ref (k.2.2.2.1 ((a - (am_SB + 10)) / 2)) := by
  unfold am_X at h
  rw [if_neg (by omega), if_neg (by omega), if_pos h1] at h
  exact h
theorem am_X_byt {k : AK} {b a : Nat} {w : Value} (h1 : (a - (am_SB + 10)) % 2 = 1) (h2 : am_SB + 10 ≤ a) (h : am_X k b a w) : w = .ref (k.2.2.2.2 ((a - (am_SB + 10)) / 2)) := by
  unfold am_X at h
  rw [if_neg (by omega), if_neg (by omega), if_neg (by omega)] at h
  exact h
theorem am_X_mktxt (k : AK) (b i : Nat) : am_X k b (am_SB + 10 + 2 * i) (.ref (k.2.2.2.1 i)) := by
  unfold am_X
  rw [if_neg (by omega), if_neg (by omega), if_pos (by omega), show (am_SB + 10 + 2 * i - (am_SB + 10)) / 2 = i by omega]
theorem am_X_mkbyt {k : AK} {b a : Nat} (h1 : (a - (am_SB + 10)) % 2 = 0) (h2 : am_SB + 10 ≤ a) : am_X k b (a + 1) (.ref (k.2.2.2.2 ((a - (am_SB + 10)) / 2))) := by
  unfold am_X
  rw [if_neg (by omega), if_neg (by omega), if_neg (by omega), show (a + 1 - (am_SB + 10)) / 2 = (a - (am_SB + 10)) / 2 by omega]
theorem am_X_scr {k : AK} {b : Nat} {w : Value} (h : am_X k b am_SB w) : w = .ref b := by
  unfold am_X at h
  rw [if_pos rfl] at h
  exact h
theorem am_four {a : Nat} (h : a < am_SB + 18) : (a - (am_SB + 10)) / 2 < 4 := by omega
section AMR
variable {p : Program} {l : Launch} {e : Env} {R : Room} {s : State} {m : MethodId} {args : Array Value} {below : List Frame} {meth : Method} {c : Code} {Q : State → Prop} {k : AK} {b nL : Nat} {as0 as : List Nat} {ws : va_W} {ls : ALs} {st : List Value} {h : AHp} {ls1 : Array Slot} {st1 : List Value} {H : Heap} {locs : List Loc} {cells slots pc : Nat} {S : ASt} {cc : ByteArray} {own : String}
/-- a cell of the world, on both sides -/
theorem am_obj_at {X : Nat → Value → Prop} {i : Nat} {ci : Nat} {fs : List Value} {a : Nat} (hw : am_RW X k.2.2.1 as h ws) (hc : h[i]? = some (.inr (ci, fs))) (ha : as[i]? = some a) : ∃ gs, ws[i]? = some (a, .inr (ci, gs)) ∧ am_RS X as fs gs := by
  obtain ⟨e, h1, h2⟩ := am_RW_get hw hc ha
  rcases e with ⟨cA, mm, bb⟩ | ⟨cj, gs⟩
  · exact h2.elim
  · obtain ⟨rfl, h3⟩ := h2
    exact ⟨gs, h1, h3⟩
theorem am_arr_at {X : Nat → Value → Prop} {i : Nat} {t n : Nat} {f : AVc} {a : Nat} (hw : am_RW X k.2.2.1 as h ws) (hc : h[i]? = some (.inl (t, n, f))) (ha : as[i]? = some a) : ∃ g, ws[i]? = some (a, .inl (k.2.2.1 t, n, g)) ∧ t < 5 ∧ am_RA as f g := by
  obtain ⟨e, h1, h2⟩ := am_RW_get hw hc ha
  rcases e with ⟨cA, mm, bb⟩ | ⟨cj, gs⟩
  · obtain ⟨rfl, rfl, h3, h4⟩ := h2
    exact ⟨bb, h1, h3, h4⟩
  · exact h2.elim
theorem sim_get (hx : p.tables.exec = Jvm.exec) (hb : c.code = cc) (hts : ∀ w ∈ am_T, w.before args s = true) (hown : s.vm.findClass own = some m.cls) (hK : va_K k.2.1 am_cl (am_tys k.2.2.1) s) (hstr : am_Str k s s.heap) {idx r1 r2 : Nat} (hdg : decode cc pc = .ok (.getfield idx, 3))
    (h101 : r1 = 101 → Jvm.Cond.fieldLink own idx "java/lang/String" "value" "[B" ∈ am_T) (h102 : r1 = 102 → Jvm.Cond.fieldLink own idx "java/lang/String" "coder" "B" ∈ am_T) (hf : ∀ C T N, am_cl[r1]? = some (C, T, N) → r2 < N ∧ Jvm.Cond.fieldLink own idx (T r2).1 (T r2).2.1 (T r2).2.2.1 ∈ am_T)
    (hs : am_get pc r1 r2 ls st h = some S) (Rl : am_Rel k (am_X k b) nL s as0 as ws ls st h ls1 st1 H locs) (go : am_Go p l e R s m args below meth c Q k (am_X k b) nL as0 S cells slots) : W p l e R s m args below meth c H locs cells slots Q (F0 m pc ls1 st1) := by
  unfold am_get at hs
  split at hs
  · next a r =>
    obtain ⟨t, hl, hst, hw, hP, hD, hS⟩ := Rl
    split at hs
    · next ha =>
      obtain ⟨q, r', hq, rfl, hst'⟩ := am_RS_ref hst ha
      split at hs
      · next ci fs hcell =>
        split at hs
        · next hci =>
          subst hci
          split at hs
          · next v hv =>
            cases hs
            obtain ⟨gs, hg, hrs⟩ := am_obj_at hw hcell hq
            obtain ⟨w, hw1, hw2⟩ := am_RS_get hrs hv
            obtain ⟨⟨C, T, N⟩, hcl⟩ := am_P_cl hP hg
            obtain ⟨hk, hlk⟩ := hf C T N hcl
            exact va_get hx hb hts (am_ws_in hcl) hown hK hP a hg hcl r2 hk (hts _ hlk) (fun x hx => hx) hw1 hdg (go as ws ls1 (w :: r') H locs ⟨t, hl, ⟨hw2, hst'⟩, hw, hP, hD, hS⟩)
          · cases hs
        · cases hs
      · cases hs
    · next ha =>
      obtain ⟨w, r', rfl, hw0, hst'⟩ := am_RS_cons hst
      have hX := am_RV_ext hw0 ha
      split at hs
      · split at hs
        · next hq =>
          cases hs
          have hw1 := am_X_txt hq.1 hq.2.1 hX
          subst hw1
          obtain ⟨-, -, h3, -⟩ := hstr ((a - (am_SB + 10)) / 2) (am_four hq.2.2)
          exact vk_getf hx hb h3 hS hown (hts _ (h101 rfl)) (fun x hx => hx) hdg (go as ws ls1 _ H locs ⟨t, hl, ⟨am_RV_mkx (by omega) (am_X_mkbyt hq.1 hq.2.1), hst'⟩, hw, hP, hD, hS⟩)
        · cases hs
      · split at hs
        · next hq =>
          cases hs
          have hw1 := am_X_txt hq.1 hq.2.1 hX
          subst hw1
          obtain ⟨-, h2, -, -⟩ := hstr ((a - (am_SB + 10)) / 2) (am_four hq.2.2)
          exact vk_getf hx hb h2 hS hown (hts _ (h102 rfl)) (fun x hx => hx) hdg (go as ws ls1 _ H locs ⟨t, hl, ⟨rfl, hst'⟩, hw, hP, hD, hS⟩)
        · cases hs
      · cases hs
  · cases hs
theorem sim_put (hx : p.tables.exec = Jvm.exec) (hb : c.code = cc) (hts : ∀ w ∈ am_T, w.before args s = true) (hown : s.vm.findClass own = some m.cls) (hK : va_K k.2.1 am_cl (am_tys k.2.2.1) s) {idx r1 r2 : Nat} (hdg : decode cc pc = .ok (.putfield idx, 3))
    (hf : ∀ C T N, am_cl[r1]? = some (C, T, N) → r2 < N ∧ Jvm.Cond.fieldLink own idx (T r2).1 (T r2).2.1 (T r2).2.2.1 ∈ am_T ∧ ((T r2).2.2.2 = false ∨ ((T r2).2.2.2 = true ∧ meth.name = "<init>" ∧ (T r2).1 = own)))
    (hs : am_put pc r1 r2 ls st h = some S) (Rl : am_Rel k (am_X k b) nL s as0 as ws ls st h ls1 st1 H locs) (go : am_Go p l e R s m args below meth c Q k (am_X k b) nL as0 S cells slots) : W p l e R s m args below meth c H locs cells slots Q (F0 m pc ls1 st1) := by
  unfold am_put at hs
  split at hs
  · next v a r =>
    obtain ⟨t, hl, hst, hw, hP, hD, hS⟩ := Rl
    split at hs
    · next ha =>
      obtain ⟨u, r0, rfl, hu, hst0⟩ := am_RS_cons hst
      obtain ⟨q, r', hq, rfl, hst'⟩ := am_RS_ref hst0 ha
      split at hs
      · next ci fs hcell =>
        split at hs
        · next hci =>
          obtain ⟨rfl, hlen, hfit, hnar, hne⟩ := hci
          cases hs
          obtain ⟨gs, hg, hrs⟩ := am_obj_at hw hcell hq
          obtain ⟨⟨C, T, N⟩, hcl⟩ := am_P_cl hP hg
          obtain ⟨hk, hlk, hfin⟩ := hf C T N hcl
          obtain ⟨hfit', hnar'⟩ := am_fits (am_X_ref k b) hu hne hfit hnar
          have hgl : r2 < gs.length := by rw [am_RS_len hrs]; exact hlen
          have nxt : ∀ (H1 : Heap) (locs1 : List Loc), va_P k.2.1 am_cl (ws.set a (q, .inr (ci, gs.set r2 u))) H1 → va_D (am_A k) (ws.set a (q, .inr (ci, gs.set r2 u))) → va_S (am_A k) s.heap H1 locs1 → W p l e R s m args below meth c H1 locs1 cells slots Q (F0 m (pc + 3) ls1 r') :=
            fun H1 locs1 hP1 hD1 hS1 => go as (ws.set a (q, .inr (ci, gs.set r2 u))) ls1 r' H1 locs1 ⟨t, hl, hst', am_RW_set hw hq (am_RC_obj (am_RS_set r2 hrs hu)), hP1, hD1, hS1⟩
          rcases hfin with hfin | ⟨hfin, hnm, hdc⟩
          · exact va_put hx hb hts (am_ws_in hcl) (am_ft ci) (am_ty_ok hcl) (am_nm_ok hcl) hown hK hP hD hS a hg hcl r2 hk (hts _ hlk) (fun x hx => hx) hfin (am_ty_ok hcl r2 hk) hnar' hfit' hgl hdg nxt
          · exact va_putF hx hb hts (am_ws_in hcl) (am_ft ci) (am_ty_ok hcl) (am_nm_ok hcl) hown hK hP hD hS a hg hcl r2 hk (hts _ hlk) (fun x hx => hx) hfin hnm hdc (am_ty_ok hcl r2 hk) hnar' hfit' hgl hdg nxt
        · cases hs
      · cases hs
    · cases hs
  · cases hs
theorem sim_static (hx : p.tables.exec = Jvm.exec) (hb : c.code = cc) (hts : ∀ w ∈ am_T, w.before args s = true) (hown : s.vm.findClass own = some m.cls) (hz1 : va_Z "java/lang/String" "COMPACT_STRINGS" "Z" (.int 1) (am_A k) s s.heap) (hz2 : va_Zq "jdk/internal/util/Preconditions" "SIOOBE_FORMATTER" "Ljava/util/function/BiFunction;" (am_A k) s s.heap) {idx r1 : Nat} (hdg : decode cc pc = .ok (.getstatic idx, 3))
    (h0 : r1 = 0 → Jvm.Cond.fieldLink own idx "java/lang/String" "COMPACT_STRINGS" "Z" ∈ am_T) (h1 : r1 = 1 → Jvm.Cond.fieldLink own idx "jdk/internal/util/Preconditions" "SIOOBE_FORMATTER" "Ljava/util/function/BiFunction;" ∈ am_T)
    (hs : am_static pc r1 ls st h = some S) (Rl : am_Rel k (am_X k b) nL s as0 as ws ls st h ls1 st1 H locs) (go : am_Go p l e R s m args below meth c Q k (am_X k b) nL as0 S cells slots) : W p l e R s m args below meth c H locs cells slots Q (F0 m pc ls1 st1) := by
  unfold am_static at hs
  obtain ⟨t, hl, hst, hw, hP, hD, hS⟩ := Rl
  split at hs
  · cases hs
    exact va_gets hx hb hz1 hS hown (hts _ (h0 rfl)) (fun x hx => hx) hdg (go as ws ls1 _ H locs ⟨t, hl, ⟨rfl, hst⟩, hw, hP, hD, hS⟩)
  · cases hs
    have hxx : ∀ w : Value, (w = .null ∨ ∃ a, w = .ref a) → am_RV (am_X k b) as (.ref (am_SB + 1)) w := fun w hw => am_RV_mkx (by omega) (by unfold am_X; rw [if_neg (by omega), if_pos rfl]; exact hw)
    rcases hz2 with hz | ⟨a, hz⟩
    · exact va_gets hx hb hz hS hown (hts _ (h1 rfl)) (fun x hx => hx) hdg (go as ws ls1 _ H locs ⟨t, hl, ⟨hxx _ (Or.inl rfl), hst⟩, hw, hP, hD, hS⟩)
    · exact va_gets hx hb hz hS hown (hts _ (h1 rfl)) (fun x hx => hx) hdg (go as ws ls1 _ H locs ⟨t, hl, ⟨hxx _ (Or.inr ⟨a, rfl⟩), hst⟩, hw, hP, hD, hS⟩)
  · cases hs
theorem sim_ldc (hx : p.tables.exec = Jvm.exec) (hb : c.code = cc) (hts : ∀ w ∈ am_T, w.before args s = true) (hown : s.vm.findClass own = some m.cls) (hvk : ∀ q ∈ am_sr, vk_R q.1 q.2.1 (am_txs q.2.2) (k.2.2.2.1 q.2.2) s) {idx r1 r2 : Nat} (hdg : decode cc pc = .ok (.ldc idx, 2))
    (h0 : r1 = 0 → Jvm.Cond.constant own idx (Int32.ofNat r2) ∈ am_T) (h1 : r1 = 1 → (own, idx, r2) ∈ am_sr)
    (hs : am_ldc 2 pc r1 r2 ls st h = some S) (Rl : am_Rel k (am_X k b) nL s as0 as ws ls st h ls1 st1 H locs) (go : am_Go p l e R s m args below meth c Q k (am_X k b) nL as0 S cells slots) : W p l e R s m args below meth c H locs cells slots Q (F0 m pc ls1 st1) := by
  unfold am_ldc at hs
  obtain ⟨t, hl, hst, hw, hP, hD, hS⟩ := Rl
  split at hs
  · cases hs
    exact lv_ldc hx hb hown (hts _ (h0 rfl)) hdg (go as ws ls1 _ H locs ⟨t, hl, ⟨rfl, hst⟩, hw, hP, hD, hS⟩)
  · cases hs
    exact va_ldcS hx hb hown (hvk _ (h1 rfl)) hdg (go as ws ls1 _ H locs ⟨t, hl, ⟨am_RV_mkx (by omega) (am_X_mktxt k b r2), hst⟩, hw, hP, hD, hS⟩)
  · cases hs
theorem sim_ldcw (hx : p.tables.exec = Jvm.exec) (hb : c.code = cc) (hts : ∀ w ∈ am_T, w.before args s = true) (hown : s.vm.findClass own = some m.cls) {idx r1 r2 : Nat} (hdg : decode cc pc = .ok (.ldc_w idx, 3))
    (h0 : r1 = 0 → Jvm.Cond.constant own idx (Int32.ofNat r2) ∈ am_T) (h1 : ¬ r1 = 1)
    (hs : am_ldc 3 pc r1 r2 ls st h = some S) (Rl : am_Rel k (am_X k b) nL s as0 as ws ls st h ls1 st1 H locs) (go : am_Go p l e R s m args below meth c Q k (am_X k b) nL as0 S cells slots) : W p l e R s m args below meth c H locs cells slots Q (F0 m pc ls1 st1) := by
  unfold am_ldc at hs
  obtain ⟨t, hl, hst, hw, hP, hD, hS⟩ := Rl
  split at hs
  · cases hs
    exact lv_ldcw hx hb hown (hts _ (h0 rfl)) hdg (go as ws ls1 _ H locs ⟨t, hl, ⟨rfl, hst⟩, hw, hP, hD, hS⟩)
  · exact absurd rfl h1
  · cases hs
theorem sim_iald (hx : p.tables.exec = Jvm.exec) (hb : c.code = cc) (hK : va_K k.2.1 am_cl (am_tys k.2.2.1) s) {scr : ASc} (hscr : ∀ n f, scr = some (n, f) → va_X b n f s s.heap ∧ b < s.heap.size ∧ ¬ am_A k b) (hdg : decode cc pc = .ok (.iaload, 1))
    (hs : am_iald scr pc ls st h = some S) (Rl : am_Rel k (am_X k b) nL s as0 as ws ls st h ls1 st1 H locs) (go : am_Go p l e R s m args below meth c Q k (am_X k b) nL as0 S cells slots) : W p l e R s m args below meth c H locs cells slots Q (F0 m pc ls1 st1) := by
  unfold am_iald at hs
  split at hs
  · next i a r =>
    obtain ⟨t, hl, hst, hw, hP, hD, hS⟩ := Rl
    obtain ⟨r0, rfl, hst0⟩ := am_RS_int hst
    split at hs
    · next ha =>
      obtain ⟨q, r', hq, rfl, hst'⟩ := am_RS_ref hst0 ha
      split at hs
      · next n f hcell =>
        split at hs
        · next hi =>
          cases hs
          obtain ⟨g, hg, ht5, hra⟩ := am_arr_at hw hcell hq
          rcases g with g | g | g | g | g <;> try exact hra.elim
          have hfg : f = g := hra
          subst hfg
          exact va_iald hx hb hK hP a 0 hg rfl (am_in hi.1 hi.2) hdg (go as ws ls1 _ H locs ⟨t, hl, ⟨rfl, hst'⟩, hw, hP, hD, hS⟩)
        · cases hs
      · cases hs
    · next ha =>
      split at hs
      · next hab =>
        subst hab
        obtain ⟨w, r', rfl, hw0, hst'⟩ := am_RS_cons hst0
        have hw1 := am_X_scr (am_RV_ext hw0 ha)
        subst hw1
        split at hs
        · next n f =>
          split at hs
          · next hi =>
            cases hs
            obtain ⟨h1, h2, h3⟩ := hscr n f rfl
            exact va_sld hx hb h1 h2 h3 hS (am_in hi.1 hi.2) hdg (go as ws ls1 _ H locs ⟨t, hl, ⟨rfl, hst'⟩, hw, hP, hD, hS⟩)
          · cases hs
        · cases hs
      · cases hs
  · cases hs
theorem sim_bald (hx : p.tables.exec = Jvm.exec) (hb : c.code = cc) (hK : va_K k.2.1 am_cl (am_tys k.2.2.1) s) (hstr : am_Str k s s.heap) (hdg : decode cc pc = .ok (.baload, 1))
    (hs : am_bald pc ls st h = some S) (Rl : am_Rel k (am_X k b) nL s as0 as ws ls st h ls1 st1 H locs) (go : am_Go p l e R s m args below meth c Q k (am_X k b) nL as0 S cells slots) : W p l e R s m args below meth c H locs cells slots Q (F0 m pc ls1 st1) := by
  unfold am_bald at hs
  split at hs
  · next i a r =>
    obtain ⟨t, hl, hst, hw, hP, hD, hS⟩ := Rl
    obtain ⟨r0, rfl, hst0⟩ := am_RS_int hst
    split at hs
    · next ha =>
      obtain ⟨q, r', hq, rfl, hst'⟩ := am_RS_ref hst0 ha
      split at hs
      · next n f hcell =>
        split at hs
        · next hi =>
          cases hs
          obtain ⟨g, hg, ht5, hra⟩ := am_arr_at hw hcell hq
          rcases g with g | g | g | g | g <;> try exact hra.elim
          have hfg : f = g := hra
          subst hfg
          exact va_zald hx hb hK hP a 1 hg rfl (am_in hi.1 hi.2) hdg (go as ws ls1 _ H locs ⟨t, hl, ⟨rfl, hst'⟩, hw, hP, hD, hS⟩)
        · cases hs
      · cases hs
    · next ha =>
      split at hs
      · next hab =>
        obtain ⟨w, r', rfl, hw0, hst'⟩ := am_RS_cons hst0
        have hw1 := am_X_byt hab.1 hab.2.1 (am_RV_ext hw0 ha)
        subst hw1
        split at hs
        · next hi =>
          cases hs
          obtain ⟨-, -, -, h4⟩ := hstr ((a - (am_SB + 10)) / 2) (am_four hab.2.2)
          exact va_tb hx hb h4 hS (am_in hi.1 hi.2) rfl hdg (go as ws ls1 _ H locs ⟨t, hl, ⟨rfl, hst'⟩, hw, hP, hD, hS⟩)
        · cases hs
      · cases hs
  · cases hs
theorem sim_lald (hx : p.tables.exec = Jvm.exec) (hb : c.code = cc) (hK : va_K k.2.1 am_cl (am_tys k.2.2.1) s) (hdg : decode cc pc = .ok (.laload, 1))
    (hs : am_lald pc ls st h = some S) (Rl : am_Rel k (am_X k b) nL s as0 as ws ls st h ls1 st1 H locs) (go : am_Go p l e R s m args below meth c Q k (am_X k b) nL as0 S cells slots) : W p l e R s m args below meth c H locs cells slots Q (F0 m pc ls1 st1) := by
  unfold am_lald at hs
  split at hs
  · next i a r =>
    obtain ⟨t, hl, hst, hw, hP, hD, hS⟩ := Rl
    obtain ⟨r0, rfl, hst0⟩ := am_RS_int hst
    split at hs
    · next ha =>
      obtain ⟨q, r', hq, rfl, hst'⟩ := am_RS_ref hst0 ha
      split at hs
      · next n f hcell =>
        split at hs
        · next hi =>
          cases hs
          obtain ⟨g, hg, ht5, hra⟩ := am_arr_at hw hcell hq
          rcases g with g | g | g | g | g <;> try exact hra.elim
          have hfg : f = g := hra
          subst hfg
          exact va_lald hx hb hK hP a 2 hg rfl (am_in hi.1 hi.2) hdg (go as ws ls1 _ H locs ⟨t, hl, ⟨rfl, hst'⟩, hw, hP, hD, hS⟩)
        · cases hs
      · cases hs
    · cases hs
  · cases hs
theorem sim_aald (hx : p.tables.exec = Jvm.exec) (hb : c.code = cc) (hK : va_K k.2.1 am_cl (am_tys k.2.2.1) s) (hdg : decode cc pc = .ok (.aaload, 1))
    (hs : am_aald pc ls st h = some S) (Rl : am_Rel k (am_X k b) nL s as0 as ws ls st h ls1 st1 H locs) (go : am_Go p l e R s m args below meth c Q k (am_X k b) nL as0 S cells slots) : W p l e R s m args below meth c H locs cells slots Q (F0 m pc ls1 st1) := by
  unfold am_aald at hs
  split at hs
  · next i a r =>
    obtain ⟨t, hl, hst, hw, hP, hD, hS⟩ := Rl
    obtain ⟨r0, rfl, hst0⟩ := am_RS_int hst
    split at hs
    · next ha =>
      obtain ⟨q, r', hq, rfl, hst'⟩ := am_RS_ref hst0 ha
      split at hs
      · next ty n f hcell =>
        split at hs
        · next hi =>
          cases hs
          obtain ⟨g, hg, ht5, hra⟩ := am_arr_at hw hcell hq
          rcases g with g | g | g | g | g <;> try exact hra.elim
          have hv : am_RV (am_X k b) as (va_rf (f i.toNatClampNeg)) (va_rf (g i.toNatClampNeg)) := by
            obtain ⟨h1, h2⟩ := hra i.toNatClampNeg
            cases hf : f i.toNatClampNeg with
            | none => rw [h1 hf]; rfl
            | some j =>
              obtain ⟨h3, q', h4, h5⟩ := h2 j hf
              rw [h5]
              exact am_RV_mk h3 h4
          rcases hi.1 with rfl | rfl
          · exact va_aldq (C := "PebbleProofs$Board") hx hb hK hP a 3 hg rfl (am_in hi.2.1 hi.2.2) hdg (go as ws ls1 _ H locs ⟨t, hl, ⟨hv, hst'⟩, hw, hP, hD, hS⟩)
          · exact va_aldq (C := "PebbleProofs$FailingPiles") hx hb hK hP a 4 hg rfl (am_in hi.2.1 hi.2.2) hdg (go as ws ls1 _ H locs ⟨t, hl, ⟨hv, hst'⟩, hw, hP, hD, hS⟩)
        · cases hs
      · cases hs
    · cases hs
  · cases hs
theorem sim_iast (hx : p.tables.exec = Jvm.exec) (hb : c.code = cc) (hK : va_K k.2.1 am_cl (am_tys k.2.2.1) s) (hdg : decode cc pc = .ok (.iastore, 1))
    (hs : am_iast pc ls st h = some S) (Rl : am_Rel k (am_X k b) nL s as0 as ws ls st h ls1 st1 H locs) (go : am_Go p l e R s m args below meth c Q k (am_X k b) nL as0 S cells slots) : W p l e R s m args below meth c H locs cells slots Q (F0 m pc ls1 st1) := by
  unfold am_iast at hs
  split at hs
  · next x i a r =>
    obtain ⟨t, hl, hst, hw, hP, hD, hS⟩ := Rl
    obtain ⟨r00, rfl, hst00⟩ := am_RS_int hst
    obtain ⟨r0, rfl, hst0⟩ := am_RS_int hst00
    split at hs
    · next ha =>
      obtain ⟨q, r', hq, rfl, hst'⟩ := am_RS_ref hst0 ha
      split at hs
      · next n f hcell =>
        split at hs
        · next hi =>
          cases hs
          obtain ⟨g, hg, ht5, hra⟩ := am_arr_at hw hcell hq
          rcases g with g | g | g | g | g <;> try exact hra.elim
          have hfg : f = g := hra
          subst hfg
          exact va_iast hx hb hK hP hD hS a 0 hg rfl (am_in hi.1 hi.2) hdg (fun H1 locs1 hP1 hD1 hS1 => go as _ ls1 r' H1 locs1 ⟨t, hl, hst', am_RW_set hw hq (am_RC_arr (b := .inl (upd f i.toNatClampNeg x)) (by decide) rfl), hP1, hD1, hS1⟩)
        · cases hs
      · cases hs
    · cases hs
  · cases hs
theorem sim_bast (hx : p.tables.exec = Jvm.exec) (hb : c.code = cc) (hK : va_K k.2.1 am_cl (am_tys k.2.2.1) s) (hdg : decode cc pc = .ok (.bastore, 1))
    (hs : am_bast pc ls st h = some S) (Rl : am_Rel k (am_X k b) nL s as0 as ws ls st h ls1 st1 H locs) (go : am_Go p l e R s m args below meth c Q k (am_X k b) nL as0 S cells slots) : W p l e R s m args below meth c H locs cells slots Q (F0 m pc ls1 st1) := by
  unfold am_bast at hs
  split at hs
  · next x i a r =>
    obtain ⟨t, hl, hst, hw, hP, hD, hS⟩ := Rl
    obtain ⟨r00, rfl, hst00⟩ := am_RS_int hst
    obtain ⟨r0, rfl, hst0⟩ := am_RS_int hst00
    split at hs
    · next ha =>
      obtain ⟨q, r', hq, rfl, hst'⟩ := am_RS_ref hst0 ha
      split at hs
      · next n f hcell =>
        split at hs
        · next hi =>
          cases hs
          obtain ⟨g, hg, ht5, hra⟩ := am_arr_at hw hcell hq
          rcases g with g | g | g | g | g <;> try exact hra.elim
          have hfg : f = g := hra
          subst hfg
          have hxx : vp_nar .boolean x = x := by rcases hi.2.2 with rfl | rfl <;> decide
          refine va_zast hx hb hK hP hD hS a 1 hg rfl (am_in hi.1 hi.2.1) hdg (fun H1 locs1 hP1 hD1 hS1 => ?_)
          rw [hxx] at hP1 hD1
          exact go as _ ls1 r' H1 locs1 ⟨t, hl, hst', am_RW_set hw hq (am_RC_arr (b := .inl (upd f i.toNatClampNeg x)) (by decide) rfl), hP1, hD1, hS1⟩
        · cases hs
      · cases hs
    · cases hs
  · cases hs
theorem sim_last (hx : p.tables.exec = Jvm.exec) (hb : c.code = cc) (hK : va_K k.2.1 am_cl (am_tys k.2.2.1) s) (hdg : decode cc pc = .ok (.lastore, 1))
    (hs : am_last pc ls st h = some S) (Rl : am_Rel k (am_X k b) nL s as0 as ws ls st h ls1 st1 H locs) (go : am_Go p l e R s m args below meth c Q k (am_X k b) nL as0 S cells slots) : W p l e R s m args below meth c H locs cells slots Q (F0 m pc ls1 st1) := by
  unfold am_last at hs
  split at hs
  · next x i a r =>
    obtain ⟨t, hl, hst, hw, hP, hD, hS⟩ := Rl
    obtain ⟨r00, rfl, hst00⟩ := am_RS_long hst
    obtain ⟨r0, rfl, hst0⟩ := am_RS_int hst00
    split at hs
    · next ha =>
      obtain ⟨q, r', hq, rfl, hst'⟩ := am_RS_ref hst0 ha
      split at hs
      · next n f hcell =>
        split at hs
        · next hi =>
          cases hs
          obtain ⟨g, hg, ht5, hra⟩ := am_arr_at hw hcell hq
          rcases g with g | g | g | g | g <;> try exact hra.elim
          have hfg : f = g := hra
          subst hfg
          exact va_last hx hb hK hP hD hS a 2 hg rfl (am_in hi.1 hi.2) hdg (fun H1 locs1 hP1 hD1 hS1 => go as _ ls1 r' H1 locs1 ⟨t, hl, hst', am_RW_set hw hq (am_RC_arr (b := .inr (.inl (vp_updL f i.toNatClampNeg x))) (by decide) rfl), hP1, hD1, hS1⟩)
        · cases hs
      · cases hs
    · cases hs
  · cases hs
theorem sim_aast (hx : p.tables.exec = Jvm.exec) (hb : c.code = cc) (hK : va_K k.2.1 am_cl (am_tys k.2.2.1) s) {r1 : Nat} (hdg : decode cc pc = .ok (.aastore, 1))
    (hs : am_aast pc r1 ls st h = some S) (Rl : am_Rel k (am_X k b) nL s as0 as ws ls st h ls1 st1 H locs) (go : am_Go p l e R s m args below meth c Q k (am_X k b) nL as0 S cells slots) : W p l e R s m args below meth c H locs cells slots Q (F0 m pc ls1 st1) := by
  unfold am_aast at hs
  split at hs
  · next v i a r =>
    obtain ⟨t, hl, hst, hw, hP, hD, hS⟩ := Rl
    split at hs
    · next ha =>
      obtain ⟨qv, r00, hqv, rfl, hst00⟩ := am_RS_ref hst ha.2
      obtain ⟨r0, rfl, hst0⟩ := am_RS_int hst00
      obtain ⟨q, r', hq, rfl, hst'⟩ := am_RS_ref hst0 ha.1
      split at hs
      · next ty n f ci fs hcell hcv =>
        split at hs
        · next hi =>
          cases hs
          obtain ⟨g, hg, ht5, hra⟩ := am_arr_at hw hcell hq
          obtain ⟨gs, hgv, -⟩ := am_obj_at hw hcv hqv
          rcases g with g | g | g | g | g <;> try exact hra.elim
          have hra' : am_RA as (.inr (.inr (.inr (.inr (va_up f i.toNatClampNeg (some v)))))) (.inr (.inr (.inr (.inr (va_up g i.toNatClampNeg (some qv)))))) := by
            intro j
            by_cases hj : j = i.toNatClampNeg
            · refine ⟨fun z => ?_, fun u z => ?_⟩
              · simp only [va_up, if_pos hj] at z; cases z
              · simp only [va_up, if_pos hj] at z ⊢
                cases z
                exact ⟨ha.2, qv, hqv, rfl⟩
            · simp only [va_up, if_neg hj]
              exact hra j
          rcases hi.1 with ⟨rfl, rfl⟩ | ⟨rfl, rfl⟩
          · exact va_astq (r := ("PebbleProofs$Board", am_T0, 9)) hx hb hK hP hD hS a 3 v 0 hg rfl hgv rfl (am_in hi.2.1 hi.2.2) hdg (fun H1 locs1 hP1 hD1 hS1 => go as _ ls1 r' H1 locs1 ⟨t, hl, hst', am_RW_set hw hq (am_RC_arr (b := .inr (.inr (.inr (.inr (va_up g i.toNatClampNeg (some qv)))))) (by decide) hra'), hP1, hD1, hS1⟩)
          · exact va_astq (r := ("PebbleProofs$FailingPiles", am_T1, 12)) hx hb hK hP hD hS a 4 v 1 hg rfl hgv rfl (am_in hi.2.1 hi.2.2) hdg (fun H1 locs1 hP1 hD1 hS1 => go as _ ls1 r' H1 locs1 ⟨t, hl, hst', am_RW_set hw hq (am_RC_arr (b := .inr (.inr (.inr (.inr (va_up g i.toNatClampNeg (some qv)))))) (by decide) hra'), hP1, hD1, hS1⟩)
        · cases hs
      · cases hs
    · cases hs
  · cases hs
theorem sim_alen (hx : p.tables.exec = Jvm.exec) (hb : c.code = cc) (hK : va_K k.2.1 am_cl (am_tys k.2.2.1) s) (hstr : am_Str k s s.heap) {scr : ASc} (hscr : ∀ n f, scr = some (n, f) → va_X b n f s s.heap ∧ b < s.heap.size ∧ ¬ am_A k b) (hdg : decode cc pc = .ok (.arraylength, 1))
    (hs : am_alen scr pc ls st h = some S) (Rl : am_Rel k (am_X k b) nL s as0 as ws ls st h ls1 st1 H locs) (go : am_Go p l e R s m args below meth c Q k (am_X k b) nL as0 S cells slots) : W p l e R s m args below meth c H locs cells slots Q (F0 m pc ls1 st1) := by
  unfold am_alen at hs
  split at hs
  · next a r =>
    obtain ⟨t, hl, hst, hw, hP, hD, hS⟩ := Rl
    split at hs
    · next ha =>
      obtain ⟨q, r', hq, rfl, hst'⟩ := am_RS_ref hst ha
      split at hs
      · next ty n f hcell =>
        split at hs
        · cases hs
          obtain ⟨g, hg, ht5, hra⟩ := am_arr_at hw hcell hq
          exact va_alen (x := (n, g)) hx hb hK hP a ty hg (am_tys_at ht5) rfl hdg (go as ws ls1 _ H locs ⟨t, hl, ⟨rfl, hst'⟩, hw, hP, hD, hS⟩)
        · cases hs
      · cases hs
    · next ha =>
      obtain ⟨w, r', rfl, hw0, hst'⟩ := am_RS_cons hst
      have hXx := am_RV_ext hw0 ha
      split at hs
      · next hab =>
        subst hab
        have hw1 := am_X_scr hXx
        subst hw1
        split at hs
        · next n f =>
          cases hs
          obtain ⟨h1, h2, h3⟩ := hscr n f rfl
          exact va_slen hx hb h1 h2 h3 hS hdg (go as ws ls1 _ H locs ⟨t, hl, ⟨rfl, hst'⟩, hw, hP, hD, hS⟩)
        · cases hs
      · split at hs
        · next hab =>
          cases hs
          have hw1 := am_X_byt hab.1 hab.2.1 hXx
          subst hw1
          obtain ⟨-, -, -, h4⟩ := hstr ((a - (am_SB + 10)) / 2) (am_four hab.2.2)
          exact va_tlen hx hb h4 hS rfl hdg (go as ws ls1 _ H locs ⟨t, hl, ⟨rfl, hst'⟩, hw, hP, hD, hS⟩)
        · cases hs
  · cases hs
theorem sim_copy (hx : p.tables.exec = Jvm.exec) (hb : c.code = cc) (hml : c.maxLocals = nL) (hown : s.vm.findClass own = some m.cls) (hK : va_K k.2.1 am_cl (am_tys k.2.2.1) s) {idx : Nat} (hdg : decode cc pc = .ok (.invokestatic idx, 3)) (h1 : (Jvm.Cond.methodLink own idx arraycopyName).before args s = true) (h2 : (Jvm.Cond.native arraycopyName).before args s = true) (h3 : (Jvm.Cond.static arraycopyName).before args s = true) (h4 : (Jvm.Cond.initialized "java/lang/System").before args s = true)
    (hframes : 1 ≤ R.frames) (hlocals : 8 + (nativeFrameWords "java/lang/System" "arraycopy" 5 + 11) ≤ R.locals)
    (hs : am_copy pc ls st h = some S) (Rl : am_Rel k (am_X k b) nL s as0 as ws ls st h ls1 st1 H locs) (go : am_Go p l e R s m args below meth c Q k (am_X k b) nL as0 S cells slots) : W p l e R s m args below meth c H locs cells slots Q (F0 m pc ls1 st1) := by
  unfold am_copy at hs
  split at hs
  · next n dp a sp b0 r =>
    obtain ⟨t, hl, hst, hw, hP, hD, hS⟩ := Rl
    split at hs
    · next hab =>
      obtain ⟨ha, hb0, hne, hsum⟩ := hab
      obtain ⟨x1, rfl, g1⟩ := am_RS_int hst
      obtain ⟨x2, rfl, g2⟩ := am_RS_int g1
      obtain ⟨q, x3, hq, rfl, g3⟩ := am_RS_ref g2 ha
      obtain ⟨x4, rfl, g4⟩ := am_RS_int g3
      obtain ⟨q0, r', hq0, rfl, g5⟩ := am_RS_ref g4 hb0
      split at hs
      · next n0 f n1 g hc0 hc1 =>
        split at hs
        · next hi =>
          cases hs
          obtain ⟨i1, i2, i3, i4, i5⟩ := hi
          obtain ⟨f', hf', -, hra⟩ := am_arr_at hw hc0 hq0
          obtain ⟨g', hg', -, hrb⟩ := am_arr_at hw hc1 hq
          rcases f' with f' | f' | f' | f' | f' <;> try exact hra.elim
          rcases g' with g' | g' | g' | g' | g' <;> try exact hrb.elim
          have e1 : f = f' := hra
          have e2 : g = g' := hrb
          subst e1; subst e2
          have neg : ∀ x : Int32, 0 ≤ x.toInt → ¬ x < 0 := fun x hx0 => by
            rw [Int32.lt_iff_toInt_lt]
            have : (0 : Int32).toInt = 0 := rfl
            omega
          exact va_copyi hx hb (by rw [hml]; exact hl.1.symm) hown h1 h2 h3 h4 hK hP hD hS b0 a 0 0 hf' hg' rfl rfl rfl (neg _ i1) (neg _ i2) (neg _ i3) i4 i5 (fun _ _ => rfl) hframes (by rw [am_RS_cat (am_X_ok k b) g5]; omega) hdg (fun H1 locs1 hP1 hD1 hS1 => go as _ ls1 r' H1 locs1 ⟨t, hl, g5, am_RW_set hw hq (am_RC_arr (b := .inl (va_cpy f g sp.toNatClampNeg dp.toNatClampNeg n.toNatClampNeg)) (by decide) rfl), hP1, hD1, hS1⟩)
        · cases hs
      · cases hs
    · cases hs
  · cases hs
theorem sim_m2 {f : Int32 → Int32 → Int32} (row : ∀ {x y : Int32} {rest : List Value}, (rest.map fun v => v.category).sum ≤ 8 → W p l e R s m args below meth c H locs cells slots Q (F0 m (pc + 3) ls1 (.int (f x y) :: rest)) → W p l e R s m args below meth c H locs cells slots Q (F0 m pc ls1 (.int y :: .int x :: rest))) (hs : am_m2 f pc ls st h = some S) (Rl : am_Rel k (am_X k b) nL s as0 as ws ls st h ls1 st1 H locs) (go : am_Go p l e R s m args below meth c Q k (am_X k b) nL as0 S cells slots) : W p l e R s m args below meth c H locs cells slots Q (F0 m pc ls1 st1) := by
  unfold am_m2 at hs
  split at hs
  · split at hs
    · next hsum =>
      cases hs
      obtain ⟨t, hl, hst, hw, hP, hD, hS⟩ := Rl
      obtain ⟨r1, rfl, h1⟩ := am_RS_int hst
      obtain ⟨r2, rfl, h2⟩ := am_RS_int h1
      exact row (by rw [am_RS_cat (am_X_ok k b) h2]; exact hsum) (go as ws ls1 _ H locs ⟨t, hl, ⟨rfl, h2⟩, hw, hP, hD, hS⟩)
    · cases hs
  · cases hs
theorem sim_obj (hx : p.tables.exec = Jvm.exec) (hb : c.code = cc) (hml : c.maxLocals = nL) (hown : s.vm.findClass own = some m.cls) {idx : Nat} (hdg : decode cc pc = .ok (.invokespecial idx, 3)) (h1 : (Jvm.Cond.methodLink own idx Lib.objectInit).before args s = true) (h2 : (Jvm.Cond.instanceMethod Lib.objectInit).before args s = true) (h3 : (Jvm.Cond.code Lib.objectInit ⟨#[0xb1]⟩ 1 none).before args s = true)
    (hframes : 1 ≤ R.frames) (hlocals : 8 + 12 ≤ R.locals)
    (hs : am_obj pc ls st h = some S) (Rl : am_Rel k (am_X k b) nL s as0 as ws ls st h ls1 st1 H locs) (go : am_Go p l e R s m args below meth c Q k (am_X k b) nL as0 S cells slots) : W p l e R s m args below meth c H locs cells slots Q (F0 m pc ls1 st1) := by
  unfold am_obj at hs
  split at hs
  · next a r =>
    obtain ⟨t, hl, hst, hw, hP, hD, hS⟩ := Rl
    split at hs
    · next ha =>
      obtain ⟨q, r', hq, rfl, g1⟩ := am_RS_ref hst ha.1
      cases hs
      refine W.objInit hx hb hown h1 h2 h3 rfl (by show ls1.size = c.maxLocals; rw [hml]; exact hl.1) rfl hdg hframes ?_ (go as ws ls1 r' H locs ⟨t, hl, g1, hw, hP, hD, hS⟩)
      have h5 := lv_room (m := m) (pc := pc) (ls := ls1) (rest := r') (st := r') (by rw [am_RS_cat (am_X_ok k b) g1]; exact ha.2)
      exact Nat.le_trans (Nat.add_le_add_right h5 12) hlocals
    · cases hs
  · cases hs
end AMR
