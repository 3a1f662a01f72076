/-! ===== the simulation: calls, ends, throws ===== -/
def am_RO (X : Nat → Value → Prop) (as : List Nat) : Option Value → Option Value → Prop
  | none, none => True
  | some v, some w => am_RV X as v w
  | _, _ => False
def am_Qc (k : AK) (b : Nat) (as : List Nat) (v : Option Value) (h1 : AHp) : Array Value → State → Outcome → State → Prop := fun _ st oc t =>
  (∃ (w : Option Value) (as1 : List Nat) (ws1 : va_W), oc = .returned w ∧ am_RO (am_X k b) as1 v w ∧ (∃ u, as1 = as ++ u) ∧ am_RW (am_X k b) k.2.2.1 as1 h1 ws1 ∧ va_P k.2.1 am_cl ws1 t.heap ∧ va_D (am_A k) ws1) ∧ va_F (am_A k) st t
def am_Qr (k : AK) (b : Nat) (as : List Nat) (res : ARe) : Array Value → State → Outcome → State → Prop := match res.1 with
  | .inl v => am_Qc k b as v res.2.1
  | .inr _ => fun _ _ _ _ => False
def am_Xr (k : AK) (b : Nat) (as : List Nat) (res : ARe) : String → State → State → Prop := match res.1 with
  | .inl _ => fun _ _ _ => False
  | .inr i => fun E st t => E = am_exn i ∧ (∃ (as1 : List Nat) (ws1 : va_W), (∃ u, as1 = as ++ u) ∧ am_RW (am_X k b) k.2.2.1 as1 res.2.1 ws1 ∧ va_P k.2.1 am_cl ws1 t.heap ∧ va_D (am_A k) ws1) ∧ va_F (am_A k) st t
def am_rm (d : Nat) (res : ARe) : Room := { frames := d, cells := res.2.2.1, slots := res.2.2.2, locals := 35 * d }
def am_Ct (l : Launch) (k : AK) (b : Nat) (scr : ASc) (d : Nat) (Y : AMe) (vs : List Value) (h : AHp) (res : ARe) : Prop :=
  ∀ (as : List Nat) (ws : va_W) (args1 : List Value), am_RS (am_X k b) as vs args1 → am_RW (am_X k b) k.2.2.1 as h ws → va_D (am_A k) ws →
    vx_Met l Y.1 (am_cw Y :: am_T) (am_rm d res) (va_Pc args1 (fun U => am_Wd k b scr U ∧ va_P k.2.1 am_cl ws U.heap)) (am_Qr k b as res) (am_Xr k b as res) res.2.2.1 res.2.2.2 (am_A k)
theorem am_blind (k : AK) (b : Nat) (scr : ASc) (ws : va_W) (args1 : List Value) : FrameBlind (va_Pc args1 (fun U => am_Wd k b scr U ∧ va_P k.2.1 am_cl ws U.heap)) := by
  intro a U g mk h
  exact ⟨h.1, h.2.1.blind a g mk, h.2.2⟩
theorem am_cnA {ci : Nat} {C : String} {T : u_T} {N : Nat} (h : am_cl[ci]? = some (C, T, N)) : ¬ C = "java/lang/AbstractStringBuilder" := by
  rw [← am_cn_ok h]
  exact (by decide : ∀ ci, ci < 12 → ¬ am_cn ci = "java/lang/AbstractStringBuilder") ci (am_cl_lt h)
section AMC
variable {p : Program} {l : Launch} {e : Env} {R : Room} {s : State} {m : MethodId} {args : Array Value} {below : List Frame} {meth : Method} {c : Code} {Q : State → Prop} {k : AK} {b nL : Nat} {as0 as : List Nat} {ws : va_W} {ls : ALs} {st : List Value} {h : AHp} {ls1 : Array Slot} {st1 : List Value} {H : Heap} {locs : List Loc} {cells slots pc : Nat} {S : ASt} {cc : ByteArray} {own nm : String} {scr : ASc}
theorem am_words {Y : AMe} (hY : am_okY Y) (hts : ∀ w ∈ am_T, w.before args s = true) : ∀ w ∈ am_cw Y :: am_T, ∀ (a1 : Array Value) (U : State), s.WarmedH U.vm → w.before a1 U = true := by
  intro w hw a1 U hW
  have h1 : w ∈ am_T := by
    rcases List.mem_cons.mp hw with q | q
    · rw [q]; exact hY.2.2.2.2
    · exact q
  exact word_at hW (good_of_word (am_T_good h1)) (hts w h1)
theorem am_npp {Y : AMe} (hY : am_okY Y) : ∀ sig, parseMethodDescriptor Y.1.desc = some sig → am_np Y = sig.parameters.length := by
  intro sig hs
  have h1 := hY.2.2.2.1
  rw [hs] at h1
  exact (Option.some.inj h1).symm
/-- behind a call -/
theorem sim_back {res : ARe} {rest st0 : List Value} {a : Array Value} (hr : vx_Run p l e R s m args below meth c H locs cells slots res.2.2.1 res.2.2.2 (F0 m pc ls1 st0) rest (am_Qr k b as res a) (am_Xr k b as res) (am_A k)) (hS : va_S (am_A k) s.heap H locs)
    (kk : ∀ (v w : Option Value) (as1 : List Nat) (ws1 : va_W) (H1 : Heap) (locs1 : List Loc), res.1 = .inl v → am_RO (am_X k b) as1 v w → (∃ u, as1 = as ++ u) → am_RW (am_X k b) k.2.2.1 as1 res.2.1 ws1 → va_P k.2.1 am_cl ws1 H1 → va_D (am_A k) ws1 → va_S (am_A k) s.heap H1 locs1 → W p l e R s m args below meth c H1 locs1 (cells + res.2.2.1) (slots + res.2.2.2) Q (F0 m (pc + 3) ls1 (w.toList ++ rest)))
    (kx : ∀ (i : Nat) (ce : Cell) (q9 : Addr) (as1 : List Nat) (ws1 : va_W) (H1 : Heap) (locs1 : List Loc), res.1 = .inr i → (∃ u, as1 = as ++ u) → am_RW (am_X k b) k.2.2.1 as1 res.2.1 ws1 → va_P k.2.1 am_cl ws1 H1 → va_D (am_A k) ws1 → va_S (am_A k) s.heap H1 locs1 → H1[q9]? = some ce → ce.vm = .none → s.vm.findClass (am_exn i) = some ce.cls → vx_W p l e R s m args below meth c H1 locs1 (cells + res.2.2.1) (slots + res.2.2.2) Q (F0 m pc ls1 rest) q9) :
    W p l e R s m args below meth c H locs cells slots Q (F0 m pc ls1 st0) := by
  intro T hT X
  rcases hr T hT X with ⟨v, st₀, t, T', L, h0, X', hL, e1, e2, hq, st⟩ | ⟨q, st₀, t, T', L, E, ce, h0, X', hL, e1, e2, hq, hce, hcv, hcl, st⟩
  · obtain ⟨ro, h1, kc, kn⟩ := res
    cases ro with
    | inr i => exact hq.elim
    | inl v0 =>
      obtain ⟨⟨w, as1, ws1, hv, hro, hu, hw, hP, hD⟩, hF⟩ := hq
      cases hv
      obtain ⟨k1, k2, k3⟩ := vx_keep h0 e1 hS (fun q _ z => z) (fun q z => z) hL hF
      obtain ⟨t2, a1, b1⟩ := kk v0 v as1 ws1 T'.heap (locs ++ L) rfl hro hu hw (by rw [e1]; exact hP) hD k3 T' rfl X'
      exact ⟨t2, st t2 a1, b1⟩
  · obtain ⟨ro, h1, kc, kn⟩ := res
    cases ro with
    | inl v0 => exact hq.elim
    | inr i =>
      obtain ⟨hE, ⟨as1, ws1, hu, hw, hP, hD⟩, hF⟩ := hq
      obtain ⟨k1, k2, k3⟩ := vx_keep h0 e1 hS (fun q _ z => z) (fun q z => z) hL hF
      obtain ⟨t2, a1, b1⟩ := kx i ce q as1 ws1 T'.heap (locs ++ L) rfl hu hw (by rw [e1]; exact hP) hD k3 (by rw [e1]; exact hce) hcv (by rw [← hE]; exact hcl) T' rfl X'
      exact ⟨t2, st.trans a1, b1⟩
/-- behind a call by an interface -/
theorem sim_back5 {res : ARe} {rest st0 : List Value} {a : Array Value} (hr : vx_Run5 p l e R s m args below meth c H locs cells slots res.2.2.1 res.2.2.2 (F0 m pc ls1 st0) rest (am_Qr k b as res a) (am_Xr k b as res) (am_A k)) (hS : va_S (am_A k) s.heap H locs)
    (kk : ∀ (v w : Option Value) (as1 : List Nat) (ws1 : va_W) (H1 : Heap) (locs1 : List Loc), res.1 = .inl v → am_RO (am_X k b) as1 v w → (∃ u, as1 = as ++ u) → am_RW (am_X k b) k.2.2.1 as1 res.2.1 ws1 → va_P k.2.1 am_cl ws1 H1 → va_D (am_A k) ws1 → va_S (am_A k) s.heap H1 locs1 → W p l e R s m args below meth c H1 locs1 (cells + res.2.2.1) (slots + res.2.2.2) Q (F0 m (pc + 5) ls1 (w.toList ++ rest)))
    (kx : ∀ (i : Nat) (ce : Cell) (q9 : Addr) (as1 : List Nat) (ws1 : va_W) (H1 : Heap) (locs1 : List Loc), res.1 = .inr i → (∃ u, as1 = as ++ u) → am_RW (am_X k b) k.2.2.1 as1 res.2.1 ws1 → va_P k.2.1 am_cl ws1 H1 → va_D (am_A k) ws1 → va_S (am_A k) s.heap H1 locs1 → H1[q9]? = some ce → ce.vm = .none → s.vm.findClass (am_exn i) = some ce.cls → vx_W p l e R s m args below meth c H1 locs1 (cells + res.2.2.1) (slots + res.2.2.2) Q (F0 m pc ls1 rest) q9) :
    W p l e R s m args below meth c H locs cells slots Q (F0 m pc ls1 st0) := by
  intro T hT X
  rcases hr T hT X with ⟨v, st₀, t, T', L, h0, X', hL, e1, e2, hq, st⟩ | ⟨q, st₀, t, T', L, E, ce, h0, X', hL, e1, e2, hq, hce, hcv, hcl, st⟩
  · obtain ⟨ro, h1, kc, kn⟩ := res
    cases ro with
    | inr i => exact hq.elim
    | inl v0 =>
      obtain ⟨⟨w, as1, ws1, hv, hro, hu, hw, hP, hD⟩, hF⟩ := hq
      cases hv
      obtain ⟨k1, k2, k3⟩ := vx_keep h0 e1 hS (fun q _ z => z) (fun q z => z) hL hF
      obtain ⟨t2, a1, b1⟩ := kk v0 v as1 ws1 T'.heap (locs ++ L) rfl hro hu hw (by rw [e1]; exact hP) hD k3 T' rfl X'
      exact ⟨t2, st t2 a1, b1⟩
  · obtain ⟨ro, h1, kc, kn⟩ := res
    cases ro with
    | inl v0 => exact hq.elim
    | inr i =>
      obtain ⟨hE, ⟨as1, ws1, hu, hw, hP, hD⟩, hF⟩ := hq
      obtain ⟨k1, k2, k3⟩ := vx_keep h0 e1 hS (fun q _ z => z) (fun q z => z) hL hF
      obtain ⟨t2, a1, b1⟩ := kx i ce q as1 ws1 T'.heap (locs ++ L) rfl hu hw (by rw [e1]; exact hP) hD k3 (by rw [e1]; exact hce) hcv (by rw [← hE]; exact hcl) T' rfl X'
      exact ⟨t2, st.trans a1, b1⟩
/-- a call -/
theorem sim_call {d d1 : Nat} {E : AEn} {J : List (Nat × Nat)} {Y : AMe} {avs arest : List Value} {res : ARe} (C : am_Cx p l R s m args meth c k b nL cc own nm scr d) (hd : d = d1 + 1) (hk : am_kind E.2.1 E.2.2.1 = 2) (hok : am_okE own nm cc E J = true) (hp : am_prog E.2.2.1 = some Y) (hY : am_okY Y) (hav : am_args E.2.2.2 st = some (avs, arest)) (hrv : am_recv E.2.1 E.2.2.1 Y.1.cls avs h = true)
    (hC : am_Ct l k b scr d1 Y avs h res) (hrc : cells + res.2.2.1 ≤ R.cells) (hrs : slots + res.2.2.2 ≤ R.slots) (Rl : am_Rel k (am_X k b) nL s as0 as ws ls st h ls1 st1 H locs)
    (kk : ∀ (v w : Option Value) (as1 : List Nat) (ws1 : va_W) (H1 : Heap) (locs1 : List Loc) (rest1 : List Value), res.1 = .inl v → am_RO (am_X k b) as1 v w → am_RS (am_X k b) as arest rest1 → (∃ u, as1 = as ++ u) → am_RW (am_X k b) k.2.2.1 as1 res.2.1 ws1 → va_P k.2.1 am_cl ws1 H1 → va_D (am_A k) ws1 → va_S (am_A k) s.heap H1 locs1 → W p l e R s m args below meth c H1 locs1 (cells + res.2.2.1) (slots + res.2.2.2) Q (F0 m (E.1 + am_nx E.2.1) ls1 (w.toList ++ rest1)))
    (kx : ∀ (i : Nat) (ce : Cell) (q9 : Addr) (as1 : List Nat) (ws1 : va_W) (H1 : Heap) (locs1 : List Loc) (rest1 : List Value), res.1 = .inr i → (∃ u, as1 = as ++ u) → am_RW (am_X k b) k.2.2.1 as1 res.2.1 ws1 → va_P k.2.1 am_cl ws1 H1 → va_D (am_A k) ws1 → va_S (am_A k) s.heap H1 locs1 → H1[q9]? = some ce → ce.vm = .none → s.vm.findClass (am_exn i) = some ce.cls → vx_W p l e R s m args below meth c H1 locs1 (cells + res.2.2.1) (slots + res.2.2.2) Q (F0 m E.1 ls1 rest1) q9) :
    W p l e R s m args below meth c H locs cells slots Q (F0 m E.1 ls1 st1) := by
  obtain ⟨pc, i, r1, r2⟩ := E
  obtain ⟨hx, hb, hml, hown, hts, hlocks, hnm, hWd, hd1, hd2, hd3, -⟩ := C
  obtain ⟨t, hl, hst, hw, hP, hD, hS⟩ := Rl
  simp only [am_okE, Bool.and_eq_true] at hok
  obtain ⟨hdc, hoi⟩ := hok
  have hdg := am_dec_ok hdc
  dsimp only at hdg hoi hk hp hav hrv kk kx ⊢
  unfold am_args at hav
  split at hav
  · next hlen =>
    cases hav
    obtain ⟨ht1, ht2⟩ := am_RS_take r2 hst
    have hrv1 := am_RS_reverse ht1
    have hlen1 : st1.length = st.length := am_RS_len hst
    have hsum : ((st1.drop r2).map fun v => v.category).sum ≤ 8 := by rw [am_RS_cat (am_X_ok k b) ht2]; exact hlen.2
    have hW8 := lv_room (m := m) (pc := pc) (ls := ls1) (rest := st1) hsum
    have hM := hC as ws (st1.take r2).reverse hrv1 hw hD
    have hws := am_words hY hts
    have hcwm : (am_cw Y).before args s = true := hts _ hY.2.2.2.2
    have hpre : ∀ U : State, U.heap = H → s.WarmedH U.vm → am_Wd k b scr U ∧ va_P k.2.1 am_cl ws U.heap := fun U hU hWU => ⟨hWd.go hS hU hWU, by rw [hU]; exact hP⟩
    have hbl := am_blind k b scr ws (st1.take r2).reverse
    have hfr : (am_rm d1 res).frames + 1 ≤ R.frames := by show d1 + 1 ≤ R.frames; omega
    have hlo : 8 + (Y.2.2.1 + 11) + (am_rm d1 res).locals ≤ R.locals := by
      have := hY.2.2.1
      show 8 + (Y.2.2.1 + 11) + 35 * d1 ≤ R.locals
      omega
    have hstk : st1 = (st1.take r2).reverse.reverse ++ st1.drop r2 := by rw [List.reverse_reverse, List.take_append_drop]
    have hnp := am_npp hY
    have hl0 : ls1.size = nL := hl.1
    have hNw := hWd.2.2.2.2.2.2.2.2.2.2.1
    have hWi : am_Wi s := hWd.2.2.2.2.2.2.2.2.2.2.2.2.2.2.1
    have fix : CallFix p m c cc nL s args am_T own := ⟨hx, hb, hml, hown, hts⟩
    have hcn : Y.2.2.2.2.2.1 = [] → am_cw Y = .code Y.1 Y.2.1 Y.2.2.1 Y.2.2.2.2.1 := fun q => by simp only [am_cw, q]
    cases i with
    | invokestatic idx =>
      have hr0 : ¬ (r1 = 900 ∨ r1 = 902 ∨ r1 = 903) := fun q => by simp only [am_kind, if_pos q] at hk; cases hk
      have hr1 : ¬ r1 = 900 := fun q => hr0 (Or.inl q)
      have hr2 : ¬ r1 = 902 := fun q => hr0 (Or.inr (Or.inl q))
      have hr3 : ¬ r1 = 903 := fun q => hr0 (Or.inr (Or.inr q))
      simp only [am_okI, if_neg hr1, if_neg hr2, if_neg hr3, hp, Bool.and_eq_true, Bool.or_eq_true, beq_iff_eq, decide_eq_true_eq] at hoi
      obtain ⟨⟨⟨o1, o2⟩, o3⟩, o4⟩ := hoi
      have hn : (st1.take r2).reverse.length = am_np Y := by rw [List.length_reverse, List.length_take, hlen1, ← o4]; exact Nat.min_eq_left hlen.1
      have hr : vx_Run p l e R s m args below meth c H locs cells slots res.2.2.1 res.2.2.2 (F0 m pc ls1 st1) (st1.drop r2) (am_Qr k b as res (st1.take r2).reverse.toArray) (am_Xr k b as res) (am_A k) := by
        rcases o1 with o1 | ⟨o1, hhs0⟩
        · cases hhs : Y.2.2.2.2.2.1 with
          | nil =>
            have hcw := hcn hhs
            exact vx_runS (n := am_np Y) (bytes := Y.2.1) (maxL := Y.2.2.1) (ret := Y.2.2.2.2.1) fix hM ⟨⟨rfl, rfl, hfr, hlo, hws, by rw [← hcw]; exact List.mem_cons_self, by rw [← hcw]; exact hcwm, hts _ (am_hs_in o3), hY.2.1, hnp, hts _ (am_hs_in o1)⟩, hts _ (am_hs_in o2)⟩ ⟨hbl, fun U hU hWU => ⟨rfl, hpre U hU hWU⟩⟩ rfl hn hl0 hstk hW8 hdg ⟨hrc, hrs⟩
          | cons q r =>
            have hcw : am_cw Y = .codeWith Y.1 Y.2.1 Y.2.2.1 Y.2.2.2.2.1 ((q :: r).map fun z => (z.1, z.2.1, z.2.2.1, z.2.2.2.1)) := by simp only [am_cw, hhs]
            exact vx_runSX (n := am_np Y) (bytes := Y.2.1) (maxL := Y.2.2.1) (ret := Y.2.2.2.2.1) (hh := (q :: r).map fun z => (z.1, z.2.1, z.2.2.1, z.2.2.2.1)) fix hM ⟨⟨rfl, rfl, hfr, hlo, hws, by rw [← hcw]; exact List.mem_cons_self⟩, by rw [← hcw]; exact hcwm, hts _ (am_hs_in o3), hY.2.1, hnp, hts _ (am_hs_in o1), hts _ (am_hs_in o2)⟩ ⟨hbl, fun U hU hWU => ⟨rfl, hpre U hU hWU⟩⟩ rfl hn hl0 hstk hW8 hdg ⟨hrc, hrs⟩
        · have hcw := hcn hhs0
          obtain ⟨host, hmem⟩ := am_okN_ok o1
          exact vx_runSN (n := am_np Y) (host := host) (bytes := Y.2.1) (maxL := Y.2.2.1) (ret := Y.2.2.2.2.1) fix hM ⟨⟨⟨rfl, rfl, hfr, hlo, hws, by rw [← hcw]; exact List.mem_cons_self⟩, by rw [← hcw]; exact hcwm, hts _ (am_hs_in o3), hY.2.1, hnp, va_Nw.use rfl (hNw _ hmem rfl)⟩, hts _ (am_hs_in o2), trivial⟩ ⟨hbl, fun U hU hWU => ⟨rfl, hpre U hU hWU⟩⟩ rfl hn hl0 hstk hW8 hdg ⟨hrc, hrs⟩
      exact sim_back hr hS (fun v w as1 ws1 H1 locs1 q1 q2 q3 q4 q5 q6 q7 => kk v w as1 ws1 H1 locs1 _ q1 q2 ht2 q3 q4 q5 q6 q7) (fun i ce q9 as1 ws1 H1 locs1 q1 q2 q3 q4 q5 q6 q7 q8 q10 => kx i ce q9 as1 ws1 H1 locs1 _ q1 q2 q3 q4 q5 q6 q7 q8 q10)
    | invokevirtual idx =>
      have hr0 : ¬ (r1 = 904 ∨ r1 = 905) := fun q => by simp only [am_kind, if_pos q] at hk; cases hk
      have hr4 : ¬ r1 = 904 := fun q => hr0 (Or.inl q)
      have hr5 : ¬ r1 = 905 := fun q => hr0 (Or.inr q)
      simp only [am_okI, if_neg hr4, if_neg hr5, hp, Bool.and_eq_true, beq_iff_eq, decide_eq_true_eq] at hoi
      obtain ⟨⟨⟨⟨o2, o4⟩, o5⟩, o6⟩, o7⟩ := hoi
      have hcw := hcn o6
      have hn1 : (st1.take r2).reverse.length = am_np Y + 1 := by rw [List.length_reverse, List.length_take, hlen1, ← o5]; exact Nat.min_eq_left hlen.1
      simp only [am_recv] at hrv
      split at hrv
      · next a0 avr heq =>
        rw [heq] at hrv1
        obtain ⟨w0, As, hAs, hw0, hAs2⟩ := am_RS_cons hrv1
        have hrec : ∃ b0 C, w0 = .ref b0 ∧ ¬ C = "java/lang/AbstractStringBuilder" ∧ (C = Y.1.cls ∨ (C = "java/lang/StringBuilder" ∧ Y.1.cls = "java/lang/AbstractStringBuilder")) ∧ ∃ cellB : Cell, H[b0]? = some cellB ∧ cellB.vm.isStatics = false ∧ s.vm.findClass C = some cellB.cls := by
          split at hrv
          · next ha0 =>
            obtain ⟨q0, hq0, rfl⟩ := am_RV_ref hw0 ha0
            split at hrv
            · next ci fs hcell =>
              obtain ⟨gs, hg, -⟩ := am_obj_at hw hcell hq0
              obtain ⟨⟨C, T, N⟩, hcl⟩ := am_P_cl hP hg
              obtain ⟨cell, z1, z2, z3⟩ := va_recv hWd.1 hP hcl hg
              have z4 : am_cn ci = Y.1.cls ∨ (ci = 9 ∧ Y.1.cls = "java/lang/AbstractStringBuilder") := of_decide_eq_true hrv
              rcases z4 with z4 | ⟨rfl, z5⟩
              · exact ⟨q0, C, rfl, am_cnA hcl, Or.inl (by rw [← z4, am_cn_ok hcl]), cell, z1, z2, z3⟩
              · cases hcl
                exact ⟨q0, _, rfl, by decide, Or.inr ⟨rfl, z5⟩, cell, z1, z2, z3⟩
            · cases hrv
          · next ha0 =>
            have z := of_decide_eq_true hrv
            have hw1 := am_X_txt z.1 (am_RV_ext hw0 ha0)
            obtain ⟨⟨cell, y1, y2, y3, y4⟩, -⟩ := hWd.2.2.1.1 ((a0 - (am_SB + 10)) / 2) (am_nt_lt z.1)
            have hlt : k.2.2.2.1 ((a0 - (am_SB + 10)) / 2) < s.heap.size := (Array.getElem?_eq_some_iff.mp y1).1
            exact ⟨_, _, hw1, (by decide : ¬ "java/lang/String" = "java/lang/AbstractStringBuilder"), Or.inl z.2.symm, cell, by rw [hS.2.1 _ hlt y4]; exact y1, y2, y3⟩
        obtain ⟨b0, C, rfl, hno, hC, hrcv⟩ := hrec
        rw [hAs] at hM hbl hstk hn1
        have hr : vx_Run p l e R s m args below meth c H locs cells slots res.2.2.1 res.2.2.2 (F0 m pc ls1 st1) (st1.drop r2) (am_Qr k b as res (Value.ref b0 :: As).toArray) (am_Xr k b as res) (am_A k) := by
          split at o7
          · simp only [Bool.and_eq_true, decide_eq_true_eq] at o7
            obtain ⟨⟨p1, p2⟩, p3⟩ := o7
            obtain rfl : C = Y.1.cls := hC.resolve_right (fun q => p3 q.2)
            exact vx_runV (n := am_np Y) (C := Y.1.cls) (bytes := Y.2.1) (maxL := Y.2.2.1) (ret := Y.2.2.2.2.1) fix hM ⟨⟨rfl, rfl, hfr, hlo, hws, by rw [← hcw]; exact List.mem_cons_self, by rw [← hcw]; exact hcwm, hts _ (am_hs_in o4), hY.2.1, hnp, hts _ (am_hs_in p1)⟩, hts _ (am_hs_in o2), hts _ (am_hs_in p2)⟩ ⟨hbl, hrcv, fun U hU hWU => ⟨rfl, hpre U hU hWU⟩⟩ rfl (by simpa using hn1) hl0 (hstk.trans (by simp)) hW8 hdg ⟨hrc, hrs⟩
          · simp only [Bool.and_eq_true, decide_eq_true_eq] at o7
            obtain ⟨p1, p2⟩ := o7
            obtain ⟨x, xb, xm, xr, e1, e2, l1, l2, l3, l4, l5⟩ := am_okU_ok p2
            have hCs : C = "java/lang/StringBuilder" := by
              rcases hC with rfl | ⟨q, -⟩
              · exact p1.resolve_right hno
              · exact q
            subst hCs
            obtain ⟨xc, xn, xd⟩ := x
            dsimp only at e1 e2
            subst e1
            refine vx_runU (n := am_np Y) (x := ⟨"java/lang/AbstractStringBuilder", xn, xd⟩) (C := "java/lang/StringBuilder") (owner := "java/lang/AbstractStringBuilder") (bytes := Y.2.1) (maxL := Y.2.2.1) (ret := Y.2.2.2.2.1) fix hM ⟨⟨rfl, rfl, hfr, hlo, hws, by rw [← hcw]; exact List.mem_cons_self⟩, by rw [← hcw]; exact hcwm, hts _ (am_hs_in o4), by decide, fun sig h => hnp sig (by rw [← e2]; exact h), hts _ l1, hts _ l3, va_Decl.of (hts _ l4) (hts _ l5), hts _ l2, hts _ (am_hs_in o2)⟩ ⟨hbl, hrcv, fun U hU hWU => ⟨rfl, hpre U hU hWU⟩⟩ rfl (by simpa using hn1) hl0 (hstk.trans (by simp)) hW8 hdg ⟨hrc, hrs⟩
        exact sim_back hr hS (fun v w as1 ws1 H1 locs1 q1 q2 q3 q4 q5 q6 q7 => kk v w as1 ws1 H1 locs1 _ q1 q2 ht2 q3 q4 q5 q6 q7) (fun i ce q9 as1 ws1 H1 locs1 q1 q2 q3 q4 q5 q6 q7 q8 q10 => kx i ce q9 as1 ws1 H1 locs1 _ q1 q2 q3 q4 q5 q6 q7 q8 q10)
      · cases hrv
    | invokeinterface idx cnt =>
      simp only [am_okI, hp, Bool.and_eq_true, beq_iff_eq, decide_eq_true_eq] at hoi
      obtain ⟨⟨⟨⟨⟨⟨o1, o2⟩, o3⟩, o4⟩, o5⟩, o6⟩, o7⟩ := hoi
      have hcw := hcn o7
      have hn1 : (st1.take r2).reverse.length = am_np Y + 1 := by rw [List.length_reverse, List.length_take, hlen1, ← o6]; exact Nat.min_eq_left hlen.1
      simp only [am_recv] at hrv
      split at hrv
      · next a0 avr heq =>
        rw [Bool.and_eq_true] at hrv
        obtain ⟨v1, v2⟩ := hrv
        have ha0 := of_decide_eq_true v1
        rw [heq] at hrv1
        obtain ⟨w0, As, hAs, hw0, hAs2⟩ := am_RS_cons hrv1
        obtain ⟨b0, hq0, rfl⟩ := am_RV_ref hw0 ha0
        have hcls : Y.1.cls = "java/util/ArrayList$Itr" := by rcases o5 with q | q <;> rw [q] <;> rfl
        split at v2
        · next ci fs hcell =>
          have z4 := of_decide_eq_true v2
          obtain ⟨gs, hg, -⟩ := am_obj_at hw hcell hq0
          obtain ⟨⟨C, T, N⟩, hcl⟩ := am_P_cl hP hg
          have hrcv := va_recv hWd.1 hP hcl hg
          have hC : C = "java/util/ArrayList$Itr" := by rw [← hcls, ← z4, am_cn_ok hcl]
          subst hC
          rw [hAs] at hM hbl hstk hn1
          have hFw : va_Fw "java/util/ArrayList$Itr" ⟨"java/util/Iterator", Y.1.name, Y.1.desc⟩ Y.1 s := by
            rcases o5 with q | q
            · rw [q]; exact hWi.2.2.2.1
            · rw [q]; exact hWi.2.2.2.2
          have hr : vx_Run5 p l e R s m args below meth c H locs cells slots res.2.2.1 res.2.2.2 (F0 m pc ls1 st1) (st1.drop r2) (am_Qr k b as res (Value.ref b0 :: As).toArray) (am_Xr k b as res) (am_A k) :=
            vx_runF (n := am_np Y) (cC := k.2.1.1 11) (x := ⟨"java/util/Iterator", Y.1.name, Y.1.desc⟩) (C := "java/util/ArrayList$Itr") (bytes := Y.2.1) (maxL := Y.2.2.1) (ret := Y.2.2.2.2.1) (hWd.1.1 11 _ rfl).2 fix hM ⟨⟨rfl, rfl, hfr, hlo, hws, by rw [← hcw]; exact List.mem_cons_self⟩, hts _ (am_hs_in o1), va_any rfl hFw.1, va_any rfl hFw.2.1, hts _ (am_hs_in o2), hts _ (am_hs_in o3), va_any rfl hFw.2.2.1, va_any rfl hFw.2.2.2.1, va_any rfl hFw.2.2.2.2, hts _ (am_hs_in o4), by rw [← hcw]; exact hcwm, (show "java/util/Iterator" ≠ "java/lang/invoke/MethodHandle" ∧ "java/util/Iterator" ≠ "java/lang/invoke/VarHandle" from by decide), hnp⟩ ⟨hbl, hrcv, fun U hU hWU => ⟨rfl, hpre U hU hWU⟩⟩ rfl (by simpa using hn1) hl0 (hstk.trans (by simp)) hW8 hdg ⟨hrc, hrs⟩
          exact sim_back5 hr hS (fun v w as1 ws1 H1 locs1 q1 q2 q3 q4 q5 q6 q7 => kk v w as1 ws1 H1 locs1 _ q1 q2 ht2 q3 q4 q5 q6 q7) (fun i ce q9 as1 ws1 H1 locs1 q1 q2 q3 q4 q5 q6 q7 q8 q10 => kx i ce q9 as1 ws1 H1 locs1 _ q1 q2 q3 q4 q5 q6 q7 q8 q10)
        · cases v2
      · cases hrv
    | invokespecial idx =>
      have hr1 : ¬ r1 = 901 := fun q => by simp only [am_kind, if_pos q] at hk; cases hk
      simp only [am_okI, if_neg hr1, hp, Bool.and_eq_true, Bool.or_eq_true, beq_iff_eq, decide_eq_true_eq] at hoi
      obtain ⟨⟨⟨⟨⟨o1, o2⟩, o3⟩, o4⟩, o5⟩, o6⟩ := hoi
      have hcw := hcn o5
      have hn1 : (st1.take r2).reverse.length = am_np Y + 1 := by rw [List.length_reverse, List.length_take, hlen1, ← o4]; exact Nat.min_eq_left hlen.1
      simp only [am_recv] at hrv
      split at hrv
      · next a0 avr heq =>
        have ha0 : a0 < am_SB := by
          split at hrv
          · rw [Bool.and_eq_true] at hrv; exact of_decide_eq_true hrv.1
          · exact of_decide_eq_true hrv
        rw [heq] at hrv1
        obtain ⟨w0, As, hAs, hw0, hAs2⟩ := am_RS_cons hrv1
        obtain ⟨b0, hq0, rfl⟩ := am_RV_ref hw0 ha0
        rw [hAs] at hM hbl hstk hn1
        have hr : vx_Run p l e R s m args below meth c H locs cells slots res.2.2.1 res.2.2.2 (F0 m pc ls1 st1) (st1.drop r2) (am_Qr k b as res (Value.ref b0 :: As).toArray) (am_Xr k b as res) (am_A k) := by
          split at o6
          · next h400 =>
            rw [if_pos h400, Bool.and_eq_true] at hrv
            obtain ⟨-, v2⟩ := hrv
            simp only [Bool.and_eq_true, bne_iff_ne, ne_eq] at o6
            obtain ⟨⟨⟨p1, p2⟩, p3⟩, p4⟩ := o6
            split at v2
            · next ci fs hcell =>
              obtain rfl := of_decide_eq_true v2
              obtain ⟨gs, hg, -⟩ := am_obj_at hw hcell hq0
              exact vx_runSU (n := am_np Y) (cC := k.2.1.1 9) (C := "java/lang/StringBuilder") (bytes := Y.2.1) (maxL := Y.2.2.1) (ret := Y.2.2.2.2.1) (hWd.1.1 9 _ rfl).2 fix hM ⟨⟨rfl, rfl, hfr, hlo, hws, by rw [← hcw]; exact List.mem_cons_self⟩, hts _ (am_hs_in p1), hts _ (am_hs_in p2), hts _ (am_hs_in p3), hts _ (am_hs_in o2), hts _ (am_hs_in o3), by rw [← hcw]; exact hcwm, p4, hnp⟩ ⟨hbl, va_recv hWd.1 hP rfl hg, fun U hU hWU => ⟨rfl, hpre U hU hWU⟩⟩ rfl (by simpa using hn1) hl0 (hstk.trans (by simp)) hW8 hdg ⟨hrc, hrs⟩
            · cases v2
          · simp only [Bool.and_eq_true, decide_eq_true_eq, beq_iff_eq] at o6
            obtain ⟨o6, o7⟩ := o6
            have hcw2 : am_cw Y = .code Y.1 Y.2.1 Y.2.2.1 none := by rw [hcw, o6]
            rcases o1 with o1 | o1
            · exact vx_runI (n := am_np Y) (bytes := Y.2.1) (maxL := Y.2.2.1) fix hM ⟨⟨rfl, rfl, hfr, hlo, hws, by rw [← hcw2]; exact List.mem_cons_self, by rw [← hcw2]; exact hcwm, hts _ (am_hs_in o3), hY.2.1, hnp, hts _ (am_hs_in o1)⟩, o7, hts _ (am_hs_in o2)⟩ ⟨hbl, fun U hU hWU => ⟨rfl, hpre U hU hWU⟩⟩ rfl (by simpa using hn1) hl0 (hstk.trans (by simp)) hW8 hdg ⟨hrc, hrs⟩
            · obtain ⟨host, hmem⟩ := am_okN_ok o1
              exact vx_runIN (n := am_np Y) (host := host) (bytes := Y.2.1) (maxL := Y.2.2.1) fix hM ⟨⟨⟨rfl, rfl, hfr, hlo, hws, by rw [← hcw2]; exact List.mem_cons_self⟩, by rw [← hcw2]; exact hcwm, hts _ (am_hs_in o3), hY.2.1, hnp, va_Nw.use rfl (hNw _ hmem rfl)⟩, o7, hts _ (am_hs_in o2)⟩ ⟨hbl, fun U hU hWU => ⟨rfl, hpre U hU hWU⟩⟩ rfl (by simpa using hn1) hl0 (hstk.trans (by simp)) hW8 hdg ⟨hrc, hrs⟩
        exact sim_back hr hS (fun v w as1 ws1 H1 locs1 q1 q2 q3 q4 q5 q6 q7 => kk v w as1 ws1 H1 locs1 _ q1 q2 ht2 q3 q4 q5 q6 q7) (fun i ce q9 as1 ws1 H1 locs1 q1 q2 q3 q4 q5 q6 q7 q8 q10 => kx i ce q9 as1 ws1 H1 locs1 _ q1 q2 q3 q4 q5 q6 q7 q8 q10)
      · cases hrv
    | new idx =>
      simp only [am_kind] at hk
      split at hk <;> cases hk
    | _ => cases hk
  · cases hav
end AMC
