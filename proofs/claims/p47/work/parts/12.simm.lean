/-! ===== the simulation: every call of every method ===== -/
theorem am_slots_len (X : Nat → Value → Prop) (hX : am_Xok X) {as : List Nat} : ∀ {vs ws : List Value}, am_RS X as vs ws → (lg_sl ws).length = (am_slots vs).length
  | [], [], _ => rfl
  | v :: vs, w :: ws, h => by
    have h1 := am_slots_len X hX h.2
    have h2 := am_RV_cat hX h.1
    simp only [am_slots, lg_sl, List.flatMap_cons, List.length_append] at h1 ⊢
    rw [h1, h2]
    by_cases q : v.category = 2
    · rw [if_pos q, if_pos q]; rfl
    · rw [if_neg q, if_neg q]; rfl
  | [], _ :: _, h => h.elim
  | _ :: _, [], h => h.elim
theorem am_slots_get (X : Nat → Value → Prop) (hX : am_Xok X) {as : List Nat} : ∀ {vs ws : List Value} {i : Nat} {v : Value}, am_RS X as vs ws → (am_slots vs)[i]? = some (some v) → ∃ w, am_RV X as v w ∧ (lg_sl ws)[i]? = some (Slot.val w)
  | [], _, i, v, _, h => by simp [am_slots] at h
  | _ :: _, [], _, _, h, _ => h.elim
  | u :: vs, w :: ws, i, v, h, hi => by
    have h2 := am_RV_cat hX h.1
    simp only [am_slots, lg_sl, List.flatMap_cons] at hi ⊢
    rw [h2]
    by_cases q : u.category = 2
    · rw [if_pos q] at hi ⊢
      match i, hi with
      | 0, hi =>
        cases hi
        exact ⟨w, h.1, rfl⟩
      | 1, hi => cases hi
      | j + 2, hi =>
        have h3 : (am_slots vs)[j]? = some (some v) := hi
        obtain ⟨w2, h4, h5⟩ := am_slots_get X hX h.2 h3
        exact ⟨w2, h4, h5⟩
    · rw [if_neg q] at hi ⊢
      match i, hi with
      | 0, hi =>
        cases hi
        exact ⟨w, h.1, rfl⟩
      | j + 1, hi =>
        have h3 : (am_slots vs)[j]? = some (some v) := hi
        obtain ⟨w2, h4, h5⟩ := am_slots_get X hX h.2 h3
        exact ⟨w2, h4, h5⟩
theorem am_RL_entry {X : Nat → Value → Prop} (hX : am_Xok X) {as : List Nat} {nL : Nat} {vs ws : List Value} (h : am_RS X as vs ws) (hlen : (am_slots vs).length ≤ nL) : am_RL X as nL (am_entry nL vs) ((lg_sl ws ++ List.replicate (nL - (lg_sl ws).length) Slot.unset).toArray) := by
  have h1 := am_slots_len X hX h
  have h2 := lv_entry ws (n := nL) (by rw [h1]; exact hlen)
  refine ⟨h2.1, by rw [am_entry, List.length_append, List.length_replicate]; omega, h2.2.1, fun i v hv => ?_⟩
  rw [am_entry] at hv
  by_cases q : i < (am_slots vs).length
  · rw [List.getElem?_append_left q] at hv
    obtain ⟨w, h3, h4⟩ := am_slots_get X hX h hv
    refine ⟨w, h3, ?_⟩
    rw [List.getElem?_toArray, List.getElem?_append_left (by rw [h1]; exact q)]
    exact h4
  · rw [List.getElem?_append_right (by omega)] at hv
    have := List.eq_of_mem_replicate (List.mem_of_getElem? hv)
    cases this
section AMM
variable {p : Program} {l : Launch} {e : Env} {R : Room} {s : State} {m : MethodId} {args : Array Value} {below : List Frame} {meth : Method} {c : Code} {Q : State → Prop} {k : AK} {b nL : Nat} {as0 as : List Nat} {ws : va_W} {ls : ALs} {st : List Value} {h : AHp} {ls1 : Array Slot} {st1 : List Value} {H : Heap} {locs : List Loc} {cells slots pc : Nat} {scr : ASc}
theorem am_mkQ {res : ARe} {v w : Option Value} (hres : res = (.inl v, h, res.2.2.1, res.2.2.2)) (hv : am_RO (am_X k b) as v w) (ht : ∃ u, as = as0 ++ u) (hw : am_RW (am_X k b) k.2.2.1 as h ws) (hP : va_P k.2.1 am_cl ws H) (hD : va_D (am_A k) ws) (hS : va_S (am_A k) s.heap H locs) : ∀ t : State, t.heap = H → s.WarmedH t.vm → am_Qr k b as0 res args s (.returned w) t := by
  intro t h1 _
  rw [hres]
  exact ⟨⟨w, as, ws, rfl, hv, ht, hw, by rw [h1]; exact hP, hD⟩, hS.F h1⟩
/-- a method's end -/
theorem sim_ret {cc : ByteArray} {nL : Nat} {i : Instr} {rt : Option FieldType} {v : Option Value} {res : ARe} (hx : p.tables.exec = Jvm.exec) (hb : c.code = cc) (hr : meth.sig.returnType = rt) (hlocks : meth.locks = false) (hdg : decode cc pc = .ok (i, am_len i)) (hv : am_ret rt i st = some v) (hres : res = (.inl v, h, res.2.2.1, res.2.2.2)) (Rl : am_Rel k (am_X k b) nL s as0 as ws ls st h ls1 st1 H locs) :
    W p l e R s m args below meth c H locs res.2.2.1 res.2.2.2 (vx_MQ below (am_Qr k b as0 res) (am_Xr k b as0 res) args s res.2.2.1 res.2.2.2 (am_A k)) (F0 m pc ls1 st1) := by
  obtain ⟨ht, hl, hst, hw, hP, hD, hS⟩ := Rl
  have hf : ∀ q ∈ locs, am_A k q.base := hS.2.2
  unfold am_ret at hv
  split at hv
  · next x ty =>
    split at hv
    · next hn =>
      cases hv
      obtain ⟨r, rfl, hr0⟩ := am_RS_int hst
      obtain rfl := am_RS_nil hr0
      exact vx_ret (W.zret hx hb hr hn (am_mkQ hres rfl ht hw hP hD hS) hf hdg hlocks)
    · cases hv
  · next x =>
    cases hv
    obtain ⟨r, rfl, hr0⟩ := am_RS_long hst
    obtain rfl := am_RS_nil hr0
    exact vx_ret (W.lret hx hb hr (am_mkQ hres rfl ht hw hP hD hS) hf hdg hlocks)
  · next a C =>
    split at hv
    · next ha =>
      cases hv
      obtain ⟨q, r, hq, rfl, hr0⟩ := am_RS_ref hst ha
      obtain rfl := am_RS_nil hr0
      exact vx_ret (W.aret hx hb hr (Or.inl ⟨_, rfl⟩) (Or.inr ⟨_, rfl⟩) (am_mkQ hres (am_RV_mk ha hq) ht hw hP hD hS) hf hdg hlocks)
    · cases hv
  · next a C =>
    split at hv
    · next ha =>
      cases hv
      obtain ⟨q, r, hq, rfl, hr0⟩ := am_RS_ref hst ha
      obtain rfl := am_RS_nil hr0
      exact vx_ret (W.aret hx hb hr (Or.inr ⟨_, rfl⟩) (Or.inr ⟨_, rfl⟩) (am_mkQ hres (am_RV_mk ha hq) ht hw hP hD hS) hf hdg hlocks)
    · cases hv
  · next C =>
    cases hv
    obtain ⟨w, r, rfl, rfl, hr0⟩ := am_RS_cons hst
    obtain rfl := am_RS_nil hr0
    exact vx_ret (W.aret hx hb hr (Or.inl ⟨_, rfl⟩) (Or.inl rfl) (am_mkQ hres rfl ht hw hP hD hS) hf hdg hlocks)
  · cases hv
    obtain rfl := am_RS_nil hst
    exact vx_ret (W.vret hx hb hr (am_mkQ hres trivial ht hw hP hD hS) hf hdg hlocks)
  · cases hv
end AMM
theorem sim_all {l : Launch} {k : AK} {b : Nat} {scr : ASc} (hfl : l.stackTraces = false) (hprog : ∀ mi Y, am_prog mi = some Y → am_okY Y ∧ am_okB Y ∧ am_okH Y) : ∀ (d f mi : Nat) (Y : AMe) (vs : List Value) (h : AHp) (res : ARe), am_prog mi = some Y → am_call scr (d + 1) f mi vs h = some res → am_Ct l k b scr d Y vs h res := by
  intro d
  induction d with
  | zero => intro f mi Y vs h res _ hc; cases hc
  | succ d ih =>
    intro f mi Y vs h res hp hc
    obtain ⟨hY, hB, hH⟩ := hprog mi Y hp
    unfold am_call at hc
    rw [hp] at hc
    dsimp only at hc
    split at hc
    · next hlen =>
      intro as ws args1 hRS hRW hD
      have hXo := am_X_ok k b
      have body : ∀ (p : Program) (e : Env) (s : State) (m : MethodId) (args : Array Value) (below : List Frame) (meth : Method) (c : Code) (s₁ : State), BodyLoose p l Y.1 (headSpec (am_cw Y :: am_T) (am_rm (d + 1) res)) Y.2.1 Y.2.2.1 Y.2.2.2.2.1 e s m args below meth c s₁ → c.maxLocals = Y.2.2.1 → c.exceptionTable.toList = tableOf (Y.2.2.2.2.2.1.map fun z => (z.1, z.2.1, z.2.2.1, z.2.2.2.1)) → va_Pc args1 (fun U => am_Wd k b scr U ∧ va_P k.2.1 am_cl ws U.heap) args s →
          W p l e (headSpec (am_cw Y :: am_T) (am_rm (d + 1) res)).room s m args below meth c s.heap [] 0 0 (vx_MQ below (am_Qr k b as res) (am_Xr k b as res) args s res.2.2.1 res.2.2.2 (am_A k)) (entryFrame m args Y.2.2.1) := by
        intro p e s m args below meth c s₁ B hml hTab hPc
        obtain ⟨rfl, hWd, hP⟩ := hPc
        have hts0 := atoms_spec (ws := am_cw Y :: am_T) B.pre
        have C : am_Cx p l (am_rm (d + 1) res) s m args1.toArray meth c k b Y.2.2.1 Y.2.1 Y.1.cls Y.1.name scr (d + 1) :=
          ⟨B.exec, B.bytes, hml, findClass_of_methodNamed B.named, fun w hw => hts0 w (List.mem_cons_of_mem _ hw), B.notSynchronized, (name_of_methodNamed B.named B.method).1, hWd, Nat.succ_pos _, Nat.le_refl _, Nat.le_refl _, hfl⟩
        rw [lg_entry_eq]
        have hout : Y.2.2.2.2.2.1 = [] → ∀ x ∈ c.exceptionTable.toList, False := fun q x hx => by rw [hTab, q] at hx; cases hx
        refine sim_exec (Q := vx_MQ below (am_Qr k b as res) (am_Xr k b as res) args1.toArray s res.2.2.1 res.2.2.2 (am_A k)) (as0 := as) C rfl hB hH (Or.inr hTab) (fun mi Y h => (hprog mi Y h).1) (fun mi Y vs h1 res1 q1 q2 => ih f mi Y vs h1 res1 q1 q2) (Nat.le_refl _) (Nat.le_refl _) ?_ ?_ ?_ f 0 _ [] h 0 0 hc as ws _ [] s.heap [] ⟨⟨[], by rw [List.append_nil]⟩, am_RL_entry hXo hRS hlen, trivial, hRW, hP, hD, va_S.rf⟩
        · intro pc i ls st h v as2 ws2 ls1 st1 H locs hdg _ hv hres Rl
          exact sim_ret B.exec B.bytes B.returns B.notSynchronized hdg hv hres Rl
        · intro E J ls st h cells slots as2 ws2 ls1 st1 H locs hk hJ h7 h5 hsum hhs hres Rl
          refine sim_throw C hk hJ h7 h5 hsum (hout hhs) hres ?_ ?_ Rl
          · rw [hres]; exact Nat.le_refl _
          · rw [hres]; exact Nat.le_refl _
        · intro pc X h ce q9 as2 ws2 ls1 H locs rest1 hhs hres ht hw hP2 hD2 hS hce hcv hcl
          refine vx_out (fun x hx => (hout hhs x hx).elim) B.notSynchronized hce hcv hcl (fun t h1 _ => ?_) (fun z hz => hS.2.2 z hz) (Nat.le_refl _) (Nat.le_refl _)
          rw [hres]
          exact ⟨rfl, ⟨as2, ws2, ht, hw, by rw [h1]; exact hP2, hD2⟩, hS.F h1⟩
      cases hhs : Y.2.2.2.2.2.1 with
      | nil =>
        have hcw : am_cw Y = .code Y.1 Y.2.1 Y.2.2.1 Y.2.2.2.2.1 := by simp only [am_cw, hhs]
        refine vx_ofW (ws' := am_T) hY.1 (by rw [hcw]) (fun p e s m args below meth c s₁ B hml hout hPc => body p e s m args below meth c s₁ B hml ?_ hPc)
        rw [hhs]
        exact List.eq_nil_iff_forall_not_mem.mpr (fun x hx => hout x hx)
      | cons q r =>
        have hcw : am_cw Y = .codeWith Y.1 Y.2.1 Y.2.2.1 Y.2.2.2.2.1 ((q :: r).map fun z => (z.1, z.2.1, z.2.2.1, z.2.2.2.1)) := by simp only [am_cw, hhs]
        refine vx_ofWH (ws' := am_T) (hh := (q :: r).map fun z => (z.1, z.2.1, z.2.2.1, z.2.2.2.1)) hY.1 (by rw [hcw]) (fun p e s m args below meth c s₁ B hml hPc => body p e s m args below meth c s₁ B hml ?_ hPc)
        have hts0 := atoms_spec (ws := am_cw Y :: am_T) B.pre
        rw [hhs]
        exact vx_table (x := Y.1) B (by rw [← hcw]; exact hts0 _ List.mem_cons_self)
    · cases hc
